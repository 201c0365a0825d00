theorem xh_rf_differs_57_24 {l : Launch} {g : xr_G} (ok : xr_OK xm_P) (A : Nat → Nat → Int32) (L : Nat → Nat → Int64) (S : Nat → Nat → Int32) (t_items : (Nat → Int32)) (t_letters : (Nat → Int32)) (t_lines : (Nat → Int32)) (t_names : (Nat → Int32)) (t_numbers : (Nat → Int32)) (t_parts : (Nat → Int32)) (t_sorts : (Nat → Int32)) (t_values : (Nat → Int32)) (n : Nat) : ∀ (t_thrown : Int32) (v1 : Int32) (v2 : Int32) (s1 : Int32) (r : (Int32 × Int32)), xf_rf_differs_24 t_items t_letters t_lines t_names t_numbers t_parts t_sorts t_values n t_thrown v1 v2 s1 = some r → xV xm_P l g (88, xm_i88, xm_I88, 0, 0, 24, [(0, .ref 59), (1, .int v1), (2, .int v2)], [.int s1, .ref 59], xw_W (xy_a (xy_a (xy_a (xy_a (xy_a (xy_a (xy_a (xy_a A 73 t_items) 68 t_letters) 66 t_lines) 69 t_names) 67 t_numbers) 70 t_parts) 71 t_sorts) 72 t_values) L (xy_s S 57 0 t_thrown)) (.inl (some (.int r.1)), xw_W (xy_a (xy_a (xy_a (xy_a (xy_a (xy_a (xy_a (xy_a A 73 t_items) 68 t_letters) 66 t_lines) 69 t_names) 67 t_numbers) 70 t_parts) 71 t_sorts) 72 t_values) L (xy_s S 57 0 r.2)) := by
  intro t_thrown v1 v2 s1 r h
  unfold xf_rf_differs_24 at h
  refine xe_seg ok 2 (G := (fun K => xr_back K 88 xm_i88 xm_I88 0 0 25 [(0, .ref 59), (1, .int v1), (2, .int v2)] [] 78 true (K (32, xm_i32, xm_I32, 0, 0, 0, [(0, .ref 59), (1, .int s1), (2, .int ((1 : Int32)))], [], xw_W (xy_a (xy_a (xy_a (xy_a (xy_a (xy_a (xy_a (xy_a A 73 t_items) 68 t_letters) 66 t_lines) 69 t_names) 67 t_numbers) 70 t_parts) 71 t_sorts) 72 t_values) L (xy_s S 57 0 t_thrown))))) (fun K => rfl) ?_
  obtain ⟨q1328, hq1328, h⟩ := Option.bind_eq_some_iff.mp h
  have heq1328 := xh_rf_fails_57 (l := l) (g := g) ok (xy_a (xy_a (xy_a (xy_a (xy_a (xy_a (xy_a (xy_a A 73 t_items) 68 t_letters) 66 t_lines) 69 t_names) 67 t_numbers) 70 t_parts) 71 t_sorts) 72 t_values) L (xy_s S 57 0 t_thrown) t_thrown s1 ((1 : Int32)) _ hq1328
  refine xe_call1 (ws' := xw_W (xy_a (xy_a (xy_a (xy_a (xy_a (xy_a (xy_a (xy_a A 73 t_items) 68 t_letters) 66 t_lines) 69 t_names) 67 t_numbers) 70 t_parts) 71 t_sorts) 72 t_values) L (xy_s S 57 0 q1328.2)) (by decide) heq1328 (Or.inl rfl) ?_
  refine xe_seg ok 1 (G := (fun K => if q1328.1 = (0 : Int32) then K (88, xm_i88, xm_I88, 0, 0, 33, [(0, .ref 59), (1, .int v1), (2, .int v2)], [], xw_W (xy_a (xy_a (xy_a (xy_a (xy_a (xy_a (xy_a (xy_a A 73 t_items) 68 t_letters) 66 t_lines) 69 t_names) 67 t_numbers) 70 t_parts) 71 t_sorts) 72 t_values) L (xy_s S 57 0 q1328.2)) else K (88, xm_i88, xm_I88, 0, 0, 31, [(0, .ref 59), (1, .int v1), (2, .int v2)], [], xw_W (xy_a (xy_a (xy_a (xy_a (xy_a (xy_a (xy_a (xy_a A 73 t_items) 68 t_letters) 66 t_lines) 69 t_names) 67 t_numbers) 70 t_parts) 71 t_sorts) 72 t_values) L (xy_s S 57 0 q1328.2)))) (fun K => rfl) ?_
  rcases xb_if h with ⟨hc1329, h⟩ | ⟨hc1329, h⟩
  · refine xe_pos hc1329 (xe_k ?_)
    refine xe_seg ok 4 (G := (fun K => K (88, xm_i88, xm_I88, 0, 0, 38, [(0, .ref 59), (1, .int v1), (2, .int v2), (3, .int v1), (4, .int ((1 : Int32)))], [], xw_W (xy_a (xy_a (xy_a (xy_a (xy_a (xy_a (xy_a (xy_a A 73 t_items) 68 t_letters) 66 t_lines) 69 t_names) 67 t_numbers) 70 t_parts) 71 t_sorts) 72 t_values) L (xy_s S 57 0 q1328.2)))) (fun K => rfl) ?_
    refine xe_k ?_
    refine xe_sub [true, false, true, true, true] (lv' := [(0, .ref 59), (2, .int v2), (3, .int v1), (4, .int ((1 : Int32)))]) rfl ?_
    exact xh_rf_differs_57_38 ok A L S t_items t_letters t_lines t_names t_numbers t_parts t_sorts t_values n n q1328.2 v2 v1 ((1 : Int32)) _ h
  · refine xe_neg hc1329 (xe_k ?_)
    obtain rfl := Option.some.inj h
    refine xe_seg ok 2 (G := (fun _ => some (.inl (some (.int ((0 : Int32)))), xw_W (xy_a (xy_a (xy_a (xy_a (xy_a (xy_a (xy_a (xy_a A 73 t_items) 68 t_letters) 66 t_lines) 69 t_names) 67 t_numbers) 70 t_parts) 71 t_sorts) 72 t_values) L (xy_s S 57 0 q1328.2)))) (fun K => rfl) ?_
    exact xe_ret
theorem xh_rf_differs_57_19 {l : Launch} {g : xr_G} (ok : xr_OK xm_P) (A : Nat → Nat → Int32) (L : Nat → Nat → Int64) (S : Nat → Nat → Int32) (t_items : (Nat → Int32)) (t_letters : (Nat → Int32)) (t_lines : (Nat → Int32)) (t_names : (Nat → Int32)) (t_numbers : (Nat → Int32)) (t_parts : (Nat → Int32)) (t_sorts : (Nat → Int32)) (t_values : (Nat → Int32)) (n : Nat) : ∀ (t_thrown : Int32) (v1 : Int32) (v2 : Int32) (r : (Int32 × Int32)), xf_rf_differs_19 t_items t_letters t_lines t_names t_numbers t_parts t_sorts t_values n t_thrown v1 v2 = some r → xV xm_P l g (88, xm_i88, xm_I88, 0, 0, 19, [(0, .ref 59), (1, .int v1), (2, .int v2)], [.ref 59], xw_W (xy_a (xy_a (xy_a (xy_a (xy_a (xy_a (xy_a (xy_a A 73 t_items) 68 t_letters) 66 t_lines) 69 t_names) 67 t_numbers) 70 t_parts) 71 t_sorts) 72 t_values) L (xy_s S 57 0 t_thrown)) (.inl (some (.int r.1)), xw_W (xy_a (xy_a (xy_a (xy_a (xy_a (xy_a (xy_a (xy_a A 73 t_items) 68 t_letters) 66 t_lines) 69 t_names) 67 t_numbers) 70 t_parts) 71 t_sorts) 72 t_values) L (xy_s S 57 0 r.2)) := by
  intro t_thrown v1 v2 r h
  unfold xf_rf_differs_19 at h
  refine xe_seg ok 2 (G := (fun K => K (88, xm_i88, xm_I88, 0, 0, 24, [(0, .ref 59), (1, .int v1), (2, .int v2)], [.int ((1 : Int32)), .ref 59], xw_W (xy_a (xy_a (xy_a (xy_a (xy_a (xy_a (xy_a (xy_a A 73 t_items) 68 t_letters) 66 t_lines) 69 t_names) 67 t_numbers) 70 t_parts) 71 t_sorts) 72 t_values) L (xy_s S 57 0 t_thrown)))) (fun K => rfl) ?_
  refine xe_k ?_
  refine xe_sub [true, true, true] (lv' := [(0, .ref 59), (1, .int v1), (2, .int v2)]) rfl ?_
  exact xh_rf_differs_57_24 ok A L S t_items t_letters t_lines t_names t_numbers t_parts t_sorts t_values n t_thrown v1 v2 ((1 : Int32)) _ h
theorem xh_rf_differs_57 {l : Launch} {g : xr_G} (ok : xr_OK xm_P) (A : Nat → Nat → Int32) (L : Nat → Nat → Int64) (S : Nat → Nat → Int32) (t_items : (Nat → Int32)) (t_letters : (Nat → Int32)) (t_lines : (Nat → Int32)) (t_names : (Nat → Int32)) (t_numbers : (Nat → Int32)) (t_parts : (Nat → Int32)) (t_sorts : (Nat → Int32)) (t_values : (Nat → Int32)) (n : Nat) : ∀ (t_thrown : Int32) (a1 : Int32) (a2 : Int32) (r : (Int32 × Int32)), xf_rf_differs t_items t_letters t_lines t_names t_numbers t_parts t_sorts t_values n t_thrown a1 a2 = some r → xV xm_P l g (88, xm_i88, xm_I88, 0, 0, 0, [(0, .ref 59), (1, .int a1), (2, .int a2)], [], xw_W (xy_a (xy_a (xy_a (xy_a (xy_a (xy_a (xy_a (xy_a A 73 t_items) 68 t_letters) 66 t_lines) 69 t_names) 67 t_numbers) 70 t_parts) 71 t_sorts) 72 t_values) L (xy_s S 57 0 t_thrown)) (.inl (some (.int r.1)), xw_W (xy_a (xy_a (xy_a (xy_a (xy_a (xy_a (xy_a (xy_a A 73 t_items) 68 t_letters) 66 t_lines) 69 t_names) 67 t_numbers) 70 t_parts) 71 t_sorts) 72 t_values) L (xy_s S 57 0 r.2)) := by
  intro t_thrown a1 a2 r h
  unfold xf_rf_differs at h
  refine xe_seg ok 6 (G := (fun K => if a1 < (0 : Int32) then K (88, xm_i88, xm_I88, 0, 0, 19, [(0, .ref 59), (1, .int a1), (2, .int a2)], [.ref 59], xw_W (xy_a (xy_a (xy_a (xy_a (xy_a (xy_a (xy_a (xy_a A 73 t_items) 68 t_letters) 66 t_lines) 69 t_names) 67 t_numbers) 70 t_parts) 71 t_sorts) 72 t_values) L (xy_s S 57 0 ((0 : Int32)))) else K (88, xm_i88, xm_I88, 0, 0, 10, [(0, .ref 59), (1, .int a1), (2, .int a2)], [.ref 59], xw_W (xy_a (xy_a (xy_a (xy_a (xy_a (xy_a (xy_a (xy_a A 73 t_items) 68 t_letters) 66 t_lines) 69 t_names) 67 t_numbers) 70 t_parts) 71 t_sorts) 72 t_values) L (xy_s S 57 0 ((0 : Int32)))))) (fun K => rfl) ?_
  rcases xb_if h with ⟨hc1327, h⟩ | ⟨hc1327, h⟩
  · refine xe_pos hc1327 (xe_k ?_)
    refine xe_sub [true, true, true] (lv' := [(0, .ref 59), (1, .int a1), (2, .int a2)]) rfl ?_
    exact xh_rf_differs_57_19 ok A L S t_items t_letters t_lines t_names t_numbers t_parts t_sorts t_values n ((0 : Int32)) a1 a2 _ h
  · refine xe_neg hc1327 (xe_k ?_)
    refine xe_seg ok 2 (G := (fun K => if a2 < (0 : Int32) then K (88, xm_i88, xm_I88, 0, 0, 19, [(0, .ref 59), (1, .int a1), (2, .int a2)], [.ref 59], xw_W (xy_a (xy_a (xy_a (xy_a (xy_a (xy_a (xy_a (xy_a A 73 t_items) 68 t_letters) 66 t_lines) 69 t_names) 67 t_numbers) 70 t_parts) 71 t_sorts) 72 t_values) L (xy_s S 57 0 ((0 : Int32)))) else K (88, xm_i88, xm_I88, 0, 0, 14, [(0, .ref 59), (1, .int a1), (2, .int a2)], [.ref 59], xw_W (xy_a (xy_a (xy_a (xy_a (xy_a (xy_a (xy_a (xy_a A 73 t_items) 68 t_letters) 66 t_lines) 69 t_names) 67 t_numbers) 70 t_parts) 71 t_sorts) 72 t_values) L (xy_s S 57 0 ((0 : Int32)))))) (fun K => rfl) ?_
    rcases xb_if h with ⟨hc1374, h⟩ | ⟨hc1374, h⟩
    · refine xe_pos hc1374 (xe_k ?_)
      refine xe_sub [true, true, true] (lv' := [(0, .ref 59), (1, .int a1), (2, .int a2)]) rfl ?_
      exact xh_rf_differs_57_19 ok A L S t_items t_letters t_lines t_names t_numbers t_parts t_sorts t_values n ((0 : Int32)) a1 a2 _ h
    · refine xe_neg hc1374 (xe_k ?_)
      refine xe_seg ok 3 (G := (fun K => if ((1 : Int32)) < a2 then K (88, xm_i88, xm_I88, 0, 0, 19, [(0, .ref 59), (1, .int a1), (2, .int a2)], [.ref 59], xw_W (xy_a (xy_a (xy_a (xy_a (xy_a (xy_a (xy_a (xy_a A 73 t_items) 68 t_letters) 66 t_lines) 69 t_names) 67 t_numbers) 70 t_parts) 71 t_sorts) 72 t_values) L (xy_s S 57 0 ((0 : Int32)))) else K (88, xm_i88, xm_I88, 0, 0, 23, [(0, .ref 59), (1, .int a1), (2, .int a2)], [.ref 59], xw_W (xy_a (xy_a (xy_a (xy_a (xy_a (xy_a (xy_a (xy_a A 73 t_items) 68 t_letters) 66 t_lines) 69 t_names) 67 t_numbers) 70 t_parts) 71 t_sorts) 72 t_values) L (xy_s S 57 0 ((0 : Int32)))))) (fun K => rfl) ?_
      rcases xb_if h with ⟨hc1375, h⟩ | ⟨hc1375, h⟩
      · refine xe_pos hc1375 (xe_k ?_)
        refine xe_sub [true, true, true] (lv' := [(0, .ref 59), (1, .int a1), (2, .int a2)]) rfl ?_
        exact xh_rf_differs_57_19 ok A L S t_items t_letters t_lines t_names t_numbers t_parts t_sorts t_values n ((0 : Int32)) a1 a2 _ h
      · refine xe_neg hc1375 (xe_k ?_)
        refine xe_seg ok 1 (G := (fun K => K (88, xm_i88, xm_I88, 0, 0, 24, [(0, .ref 59), (1, .int a1), (2, .int a2)], [.int ((0 : Int32)), .ref 59], xw_W (xy_a (xy_a (xy_a (xy_a (xy_a (xy_a (xy_a (xy_a A 73 t_items) 68 t_letters) 66 t_lines) 69 t_names) 67 t_numbers) 70 t_parts) 71 t_sorts) 72 t_values) L (xy_s S 57 0 ((0 : Int32)))))) (fun K => rfl) ?_
        refine xe_k ?_
        refine xe_sub [true, true, true] (lv' := [(0, .ref 59), (1, .int a1), (2, .int a2)]) rfl ?_
        exact xh_rf_differs_57_24 ok A L S t_items t_letters t_lines t_names t_numbers t_parts t_sorts t_values n ((0 : Int32)) a1 a2 ((0 : Int32)) _ h
theorem xh_rf_count_57_74 {l : Launch} {g : xr_G} (ok : xr_OK xm_P) (A : Nat → Nat → Int32) (L : Nat → Nat → Int64) (S : Nat → Nat → Int32) (t_kinds : (Nat → Int32)) (t_lines : (Nat → Int32)) (t_size : Int32) : ∀ (t_thrown : Int32) (s0 : Int32) (r : (Int32 × Int32)), xf_rf_count_74 t_kinds t_lines t_size t_thrown s0 = some r → xV xm_P l g (89, xm_i89, xm_I89, 0, 0, 74, [], [.int s0], xw_W (xy_a (xy_a A 60 t_kinds) 66 t_lines) L (xy_s (xy_s S 57 1 t_size) 57 0 t_thrown)) (.inl (some (.int r.1)), xw_W (xy_a (xy_a A 60 t_kinds) 66 t_lines) L (xy_s (xy_s S 57 1 t_size) 57 0 r.2)) := by
  intro t_thrown s0 r h
  unfold xf_rf_count_74 at h
  obtain rfl := Option.some.inj h
  refine xe_seg ok 1 (G := (fun _ => some (.inl (some (.int s0)), xw_W (xy_a (xy_a A 60 t_kinds) 66 t_lines) L (xy_s (xy_s S 57 1 t_size) 57 0 t_thrown)))) (fun K => rfl) ?_
  exact xe_ret
theorem xh_rf_count_57_20 {l : Launch} {g : xr_G} (ok : xr_OK xm_P) (A : Nat → Nat → Int32) (L : Nat → Nat → Int64) (S : Nat → Nat → Int32) (t_kinds : (Nat → Int32)) (t_lines : (Nat → Int32)) (t_size : Int32) : ∀ (t_thrown : Int32) (v1 : Int32) (s1 : Int32) (r : (Int32 × Int32)), xf_rf_count_20 t_kinds t_lines t_size t_thrown v1 s1 = some r → xV xm_P l g (89, xm_i89, xm_I89, 0, 0, 20, [(0, .ref 59), (1, .int v1)], [.int s1, .ref 59], xw_W (xy_a (xy_a A 60 t_kinds) 66 t_lines) L (xy_s (xy_s S 57 1 t_size) 57 0 t_thrown)) (.inl (some (.int r.1)), xw_W (xy_a (xy_a A 60 t_kinds) 66 t_lines) L (xy_s (xy_s S 57 1 t_size) 57 0 r.2)) := by
  intro t_thrown v1 s1 r h
  unfold xf_rf_count_20 at h
  refine xe_seg ok 2 (G := (fun K => xr_back K 89 xm_i89 xm_I89 0 0 21 [(0, .ref 59), (1, .int v1)] [] 78 true (K (32, xm_i32, xm_I32, 0, 0, 0, [(0, .ref 59), (1, .int s1), (2, .int ((1 : Int32)))], [], xw_W (xy_a (xy_a A 60 t_kinds) 66 t_lines) L (xy_s (xy_s S 57 1 t_size) 57 0 t_thrown))))) (fun K => rfl) ?_
  obtain ⟨q1377, hq1377, h⟩ := Option.bind_eq_some_iff.mp h
  have heq1377 := xh_rf_fails_57 (l := l) (g := g) ok (xy_a (xy_a A 60 t_kinds) 66 t_lines) L (xy_s (xy_s S 57 1 t_size) 57 0 t_thrown) t_thrown s1 ((1 : Int32)) _ hq1377
  refine xe_call1 (ws' := xw_W (xy_a (xy_a A 60 t_kinds) 66 t_lines) L (xy_s (xy_s S 57 1 t_size) 57 0 q1377.2)) (by decide) heq1377 (Or.inl rfl) ?_
  refine xe_seg ok 1 (G := (fun K => if q1377.1 = (0 : Int32) then K (89, xm_i89, xm_I89, 0, 0, 29, [(0, .ref 59), (1, .int v1)], [], xw_W (xy_a (xy_a A 60 t_kinds) 66 t_lines) L (xy_s (xy_s S 57 1 t_size) 57 0 q1377.2)) else K (89, xm_i89, xm_I89, 0, 0, 27, [(0, .ref 59), (1, .int v1)], [], xw_W (xy_a (xy_a A 60 t_kinds) 66 t_lines) L (xy_s (xy_s S 57 1 t_size) 57 0 q1377.2)))) (fun K => rfl) ?_
  rcases xb_if h with ⟨hc1378, h⟩ | ⟨hc1378, h⟩
  · refine xe_pos hc1378 (xe_k ?_)
    refine xe_seg ok 2 (G := (fun K => if v1 = (0 : Int32) then K (89, xm_i89, xm_I89, 0, 0, 33, [(0, .ref 59), (1, .int v1)], [], xw_W (xy_a (xy_a A 60 t_kinds) 66 t_lines) L (xy_s (xy_s S 57 1 t_size) 57 0 q1377.2)) else K (89, xm_i89, xm_I89, 0, 0, 40, [(0, .ref 59), (1, .int v1)], [], xw_W (xy_a (xy_a A 60 t_kinds) 66 t_lines) L (xy_s (xy_s S 57 1 t_size) 57 0 q1377.2)))) (fun K => rfl) ?_
    rcases xb_if h with ⟨hc1379, h⟩ | ⟨hc1379, h⟩
    · refine xe_pos hc1379 (xe_k ?_)
      refine xe_seg ok 3 (G := (fun K => K (89, xm_i89, xm_I89, 0, 0, 74, [(0, .ref 59), (1, .int v1)], [.int t_size], xw_W (xy_a (xy_a A 60 t_kinds) 66 t_lines) L (xy_s (xy_s S 57 1 t_size) 57 0 q1377.2)))) (fun K => rfl) ?_
      refine xe_k ?_
      refine xe_sub [false, false] (lv' := []) rfl ?_
      exact xh_rf_count_57_74 ok A L S t_kinds t_lines t_size q1377.2 t_size _ h
    · refine xe_neg hc1379 (xe_k ?_)
      refine xe_seg ok 3 (G := (fun K => if v1 = ((1 : Int32)) then K (89, xm_i89, xm_I89, 0, 0, 45, [(0, .ref 59), (1, .int v1)], [], xw_W (xy_a (xy_a A 60 t_kinds) 66 t_lines) L (xy_s (xy_s S 57 1 t_size) 57 0 q1377.2)) else K (89, xm_i89, xm_I89, 0, 0, 54, [(0, .ref 59), (1, .int v1)], [], xw_W (xy_a (xy_a A 60 t_kinds) 66 t_lines) L (xy_s (xy_s S 57 1 t_size) 57 0 q1377.2)))) (fun K => rfl) ?_
      rcases xb_if h with ⟨hc1380, h⟩ | ⟨hc1380, h⟩
      · refine xe_pos hc1380 (xe_k ?_)
        refine xe_seg ok 4 (G := (fun K => if xr_in ((0 : Int32)) 2 = true then K (89, xm_i89, xm_I89, 0, 0, 51, [(0, .ref 59), (1, .int v1)], [.int (t_kinds ((0 : Int32)).toNatClampNeg)], xw_W (xy_a (xy_a A 60 t_kinds) 66 t_lines) L (xy_s (xy_s S 57 1 t_size) 57 0 q1377.2)) else none)) (fun K => rfl) ?_
        obtain ⟨hg1381, h⟩ := xn_if h
        refine xe_pos hg1381 (xe_k ?_)
        refine xe_seg ok 1 (G := (fun K => K (89, xm_i89, xm_I89, 0, 0, 74, [(0, .ref 59), (1, .int v1)], [.int (t_kinds ((0 : Int32)).toNatClampNeg)], xw_W (xy_a (xy_a A 60 t_kinds) 66 t_lines) L (xy_s (xy_s S 57 1 t_size) 57 0 q1377.2)))) (fun K => rfl) ?_
        refine xe_k ?_
        refine xe_sub [false, false] (lv' := []) rfl ?_
        exact xh_rf_count_57_74 ok A L S t_kinds t_lines t_size q1377.2 (t_kinds ((0 : Int32)).toNatClampNeg) _ h
      · refine xe_neg hc1380 (xe_k ?_)
        refine xe_seg ok 3 (G := (fun K => if v1 = ((2 : Int32)) then K (89, xm_i89, xm_I89, 0, 0, 59, [(0, .ref 59), (1, .int v1)], [], xw_W (xy_a (xy_a A 60 t_kinds) 66 t_lines) L (xy_s (xy_s S 57 1 t_size) 57 0 q1377.2)) else K (89, xm_i89, xm_I89, 0, 0, 68, [(0, .ref 59), (1, .int v1)], [], xw_W (xy_a (xy_a A 60 t_kinds) 66 t_lines) L (xy_s (xy_s S 57 1 t_size) 57 0 q1377.2)))) (fun K => rfl) ?_
        rcases xb_if h with ⟨hc1382, h⟩ | ⟨hc1382, h⟩
        · refine xe_pos hc1382 (xe_k ?_)
          refine xe_seg ok 4 (G := (fun K => if xr_in ((0 : Int32)) 3 = true then K (89, xm_i89, xm_I89, 0, 0, 65, [(0, .ref 59), (1, .int v1)], [.int (t_lines ((0 : Int32)).toNatClampNeg)], xw_W (xy_a (xy_a A 60 t_kinds) 66 t_lines) L (xy_s (xy_s S 57 1 t_size) 57 0 q1377.2)) else none)) (fun K => rfl) ?_
          obtain ⟨hg1383, h⟩ := xn_if h
          refine xe_pos hg1383 (xe_k ?_)
          refine xe_seg ok 1 (G := (fun K => K (89, xm_i89, xm_I89, 0, 0, 74, [(0, .ref 59), (1, .int v1)], [.int (t_lines ((0 : Int32)).toNatClampNeg)], xw_W (xy_a (xy_a A 60 t_kinds) 66 t_lines) L (xy_s (xy_s S 57 1 t_size) 57 0 q1377.2)))) (fun K => rfl) ?_
          refine xe_k ?_
          refine xe_sub [false, false] (lv' := []) rfl ?_
          exact xh_rf_count_57_74 ok A L S t_kinds t_lines t_size q1377.2 (t_lines ((0 : Int32)).toNatClampNeg) _ h
        · refine xe_neg hc1382 (xe_k ?_)
          refine xe_seg ok 4 (G := (fun K => if xr_in ((2 : Int32)) 3 = true then K (89, xm_i89, xm_I89, 0, 0, 74, [(0, .ref 59), (1, .int v1)], [.int (t_lines ((2 : Int32)).toNatClampNeg)], xw_W (xy_a (xy_a A 60 t_kinds) 66 t_lines) L (xy_s (xy_s S 57 1 t_size) 57 0 q1377.2)) else none)) (fun K => rfl) ?_
          obtain ⟨hg1384, h⟩ := xn_if h
          refine xe_pos hg1384 (xe_k ?_)
          refine xe_sub [false, false] (lv' := []) rfl ?_
          exact xh_rf_count_57_74 ok A L S t_kinds t_lines t_size q1377.2 (t_lines ((2 : Int32)).toNatClampNeg) _ h
  · refine xe_neg hc1378 (xe_k ?_)
    obtain rfl := Option.some.inj h
    refine xe_seg ok 2 (G := (fun _ => some (.inl (some (.int ((0 : Int32)))), xw_W (xy_a (xy_a A 60 t_kinds) 66 t_lines) L (xy_s (xy_s S 57 1 t_size) 57 0 q1377.2)))) (fun K => rfl) ?_
    exact xe_ret
theorem xh_rf_count_57_15 {l : Launch} {g : xr_G} (ok : xr_OK xm_P) (A : Nat → Nat → Int32) (L : Nat → Nat → Int64) (S : Nat → Nat → Int32) (t_kinds : (Nat → Int32)) (t_lines : (Nat → Int32)) (t_size : Int32) : ∀ (t_thrown : Int32) (v1 : Int32) (r : (Int32 × Int32)), xf_rf_count_15 t_kinds t_lines t_size t_thrown v1 = some r → xV xm_P l g (89, xm_i89, xm_I89, 0, 0, 15, [(0, .ref 59), (1, .int v1)], [.ref 59], xw_W (xy_a (xy_a A 60 t_kinds) 66 t_lines) L (xy_s (xy_s S 57 1 t_size) 57 0 t_thrown)) (.inl (some (.int r.1)), xw_W (xy_a (xy_a A 60 t_kinds) 66 t_lines) L (xy_s (xy_s S 57 1 t_size) 57 0 r.2)) := by
  intro t_thrown v1 r h
  unfold xf_rf_count_15 at h
  refine xe_seg ok 2 (G := (fun K => K (89, xm_i89, xm_I89, 0, 0, 20, [(0, .ref 59), (1, .int v1)], [.int ((1 : Int32)), .ref 59], xw_W (xy_a (xy_a A 60 t_kinds) 66 t_lines) L (xy_s (xy_s S 57 1 t_size) 57 0 t_thrown)))) (fun K => rfl) ?_
  refine xe_k ?_
  refine xe_sub [true, true] (lv' := [(0, .ref 59), (1, .int v1)]) rfl ?_
  exact xh_rf_count_57_20 ok A L S t_kinds t_lines t_size t_thrown v1 ((1 : Int32)) _ h
theorem xh_rf_count_57 {l : Launch} {g : xr_G} (ok : xr_OK xm_P) (A : Nat → Nat → Int32) (L : Nat → Nat → Int64) (S : Nat → Nat → Int32) (t_kinds : (Nat → Int32)) (t_lines : (Nat → Int32)) (t_size : Int32) : ∀ (t_thrown : Int32) (a1 : Int32) (r : (Int32 × Int32)), xf_rf_count t_kinds t_lines t_size t_thrown a1 = some r → xV xm_P l g (89, xm_i89, xm_I89, 0, 0, 0, [(0, .ref 59), (1, .int a1)], [], xw_W (xy_a (xy_a A 60 t_kinds) 66 t_lines) L (xy_s (xy_s S 57 1 t_size) 57 0 t_thrown)) (.inl (some (.int r.1)), xw_W (xy_a (xy_a A 60 t_kinds) 66 t_lines) L (xy_s (xy_s S 57 1 t_size) 57 0 r.2)) := by
  intro t_thrown a1 r h
  unfold xf_rf_count at h
  refine xe_seg ok 6 (G := (fun K => if a1 < (0 : Int32) then K (89, xm_i89, xm_I89, 0, 0, 15, [(0, .ref 59), (1, .int a1)], [.ref 59], xw_W (xy_a (xy_a A 60 t_kinds) 66 t_lines) L (xy_s (xy_s S 57 1 t_size) 57 0 ((0 : Int32)))) else K (89, xm_i89, xm_I89, 0, 0, 10, [(0, .ref 59), (1, .int a1)], [.ref 59], xw_W (xy_a (xy_a A 60 t_kinds) 66 t_lines) L (xy_s (xy_s S 57 1 t_size) 57 0 ((0 : Int32)))))) (fun K => rfl) ?_
  rcases xb_if h with ⟨hc1376, h⟩ | ⟨hc1376, h⟩
  · refine xe_pos hc1376 (xe_k ?_)
    refine xe_sub [true, true] (lv' := [(0, .ref 59), (1, .int a1)]) rfl ?_
    exact xh_rf_count_57_15 ok A L S t_kinds t_lines t_size ((0 : Int32)) a1 _ h
  · refine xe_neg hc1376 (xe_k ?_)
    refine xe_seg ok 3 (G := (fun K => if ((3 : Int32)) < a1 then K (89, xm_i89, xm_I89, 0, 0, 15, [(0, .ref 59), (1, .int a1)], [.ref 59], xw_W (xy_a (xy_a A 60 t_kinds) 66 t_lines) L (xy_s (xy_s S 57 1 t_size) 57 0 ((0 : Int32)))) else K (89, xm_i89, xm_I89, 0, 0, 19, [(0, .ref 59), (1, .int a1)], [.ref 59], xw_W (xy_a (xy_a A 60 t_kinds) 66 t_lines) L (xy_s (xy_s S 57 1 t_size) 57 0 ((0 : Int32)))))) (fun K => rfl) ?_
    rcases xb_if h with ⟨hc1385, h⟩ | ⟨hc1385, h⟩
    · refine xe_pos hc1385 (xe_k ?_)
      refine xe_sub [true, true] (lv' := [(0, .ref 59), (1, .int a1)]) rfl ?_
      exact xh_rf_count_57_15 ok A L S t_kinds t_lines t_size ((0 : Int32)) a1 _ h
    · refine xe_neg hc1385 (xe_k ?_)
      refine xe_seg ok 1 (G := (fun K => K (89, xm_i89, xm_I89, 0, 0, 20, [(0, .ref 59), (1, .int a1)], [.int ((0 : Int32)), .ref 59], xw_W (xy_a (xy_a A 60 t_kinds) 66 t_lines) L (xy_s (xy_s S 57 1 t_size) 57 0 ((0 : Int32)))))) (fun K => rfl) ?_
      refine xe_k ?_
      refine xe_sub [true, true] (lv' := [(0, .ref 59), (1, .int a1)]) rfl ?_
      exact xh_rf_count_57_20 ok A L S t_kinds t_lines t_size ((0 : Int32)) a1 ((0 : Int32)) _ h
theorem xh_pg_addBytes_1_26 {l : Launch} {g : xr_G} (ok : xr_OK xm_P) (A : Nat → Nat → Int32) (L : Nat → Nat → Int64) (S : Nat → Nat → Int32) {k3 : Int32 → Int32 → (Nat → Int32) → Int64 → Int32 → Option (Unit × Int32 × Int32 × (Nat → Int32))} (hk3 : ∀ (t_full : Int32) (t_length : Int32) (t_signs : (Nat → Int32)) (v1 : Int64) (v3 : Int32) (r : (Unit × Int32 × Int32 × (Nat → Int32))), k3 t_full t_length t_signs v1 v3 = some r → xV xm_P l g (143, xm_i143, xm_I143, 0, 0, 3, [(0, .ref 3), (1, .long v1), (3, .int v3)], [], xw_W (xy_a A 2 t_signs) L (xy_s (xy_s S 1 2 t_full) 1 1 t_length)) (.inl none, xw_W (xy_a A 2 r.2.2.2) L (xy_s (xy_s S 1 2 r.2.1) 1 1 r.2.2.1))) (n : Nat) : ∀ (t_full : Int32) (t_length : Int32) (t_signs : (Nat → Int32)) (v1 : Int64) (v3 : Int32) (r : (Unit × Int32 × Int32 × (Nat → Int32))), xf_pg_addBytes_26 k3 n t_full t_length t_signs v1 v3 = some r → xV xm_P l g (143, xm_i143, xm_I143, 0, 0, 26, [(0, .ref 3), (1, .long v1), (3, .int v3)], [], xw_W (xy_a A 2 t_signs) L (xy_s (xy_s S 1 2 t_full) 1 1 t_length)) (.inl none, xw_W (xy_a A 2 r.2.2.2) L (xy_s (xy_s S 1 2 r.2.1) 1 1 r.2.2.1)) := by
  intro t_full t_length t_signs v1 v3 r h
  unfold xf_pg_addBytes_26 at h
  refine xe_seg ok 2 (G := (fun K => K (143, xm_i143, xm_I143, 0, 0, 3, [(0, .ref 3), (1, .long v1), (3, .int (v3 + (-8 : Int32)))], [], xw_W (xy_a A 2 t_signs) L (xy_s (xy_s S 1 2 t_full) 1 1 t_length)))) (fun K => rfl) ?_
  refine xe_k ?_
  refine xe_sub [true, true, true] (lv' := [(0, .ref 3), (1, .long v1), (3, .int (v3 + (-8 : Int32)))]) rfl ?_
  exact hk3 t_full t_length t_signs v1 (v3 + (-8 : Int32)) _ h
theorem xh_pg_add_1_47 {l : Launch} {g : xr_G} (ok : xr_OK xm_P) (A : Nat → Nat → Int32) (L : Nat → Nat → Int64) (S : Nat → Nat → Int32) : ∀ (t_full : Int32) (t_length : Int32) (t_signs : (Nat → Int32)) (r : (Unit × Int32 × Int32 × (Nat → Int32))), xf_pg_add_47  t_full t_length t_signs = some r → xV xm_P l g (142, xm_i142, xm_I142, 0, 0, 47, [], [], xw_W (xy_a A 2 t_signs) L (xy_s (xy_s S 1 2 t_full) 1 1 t_length)) (.inl none, xw_W (xy_a A 2 r.2.2.2) L (xy_s (xy_s S 1 2 r.2.1) 1 1 r.2.2.1)) := by
  intro t_full t_length t_signs r h
  unfold xf_pg_add_47 at h
  obtain rfl := Option.some.inj h
  refine xe_seg ok 1 (G := (fun _ => some (.inl none, xw_W (xy_a A 2 t_signs) L (xy_s (xy_s S 1 2 t_full) 1 1 t_length)))) (fun K => rfl) ?_
  exact xe_ret
theorem xh_pg_add_1_42 {l : Launch} {g : xr_G} (ok : xr_OK xm_P) (A : Nat → Nat → Int32) (L : Nat → Nat → Int64) (S : Nat → Nat → Int32) : ∀ (t_full : Int32) (t_length : Int32) (t_signs : (Nat → Int32)) (r : (Unit × Int32 × Int32 × (Nat → Int32))), xf_pg_add_42  t_full t_length t_signs = some r → xV xm_P l g (142, xm_i142, xm_I142, 0, 0, 42, [(0, .ref 3)], [], xw_W (xy_a A 2 t_signs) L (xy_s (xy_s S 1 2 t_full) 1 1 t_length)) (.inl none, xw_W (xy_a A 2 r.2.2.2) L (xy_s (xy_s S 1 2 r.2.1) 1 1 r.2.2.1)) := by
  intro t_full t_length t_signs r h
  unfold xf_pg_add_42 at h
  refine xe_seg ok 3 (G := (fun K => K (142, xm_i142, xm_I142, 0, 0, 47, [(0, .ref 3)], [], xw_W (xy_a A 2 t_signs) L (xy_s (xy_s S 1 2 ((1 : Int32))) 1 1 t_length)))) (fun K => rfl) ?_
  refine xe_k ?_
  refine xe_sub [false] (lv' := []) rfl ?_
  exact xh_pg_add_1_47 ok A L S ((1 : Int32)) t_length t_signs _ h
theorem xh_pg_add_1 {l : Launch} {g : xr_G} (ok : xr_OK xm_P) (A : Nat → Nat → Int32) (L : Nat → Nat → Int64) (S : Nat → Nat → Int32) : ∀ (t_full : Int32) (t_length : Int32) (t_signs : (Nat → Int32)) (a1 : Int32) (r : (Unit × Int32 × Int32 × (Nat → Int32))), xf_pg_add  t_full t_length t_signs a1 = some r → xV xm_P l g (142, xm_i142, xm_I142, 0, 0, 0, [(0, .ref 3), (1, .int a1)], [], xw_W (xy_a A 2 t_signs) L (xy_s (xy_s S 1 2 t_full) 1 1 t_length)) (.inl none, xw_W (xy_a A 2 r.2.2.2) L (xy_s (xy_s S 1 2 r.2.1) 1 1 r.2.2.1)) := by
  intro t_full t_length t_signs a1 r h
  unfold xf_pg_add at h
  refine xe_seg ok 3 (G := (fun K => if t_length < (0 : Int32) then K (142, xm_i142, xm_I142, 0, 0, 42, [(0, .ref 3), (1, .int a1)], [], xw_W (xy_a A 2 t_signs) L (xy_s (xy_s S 1 2 t_full) 1 1 t_length)) else K (142, xm_i142, xm_I142, 0, 0, 7, [(0, .ref 3), (1, .int a1)], [], xw_W (xy_a A 2 t_signs) L (xy_s (xy_s S 1 2 t_full) 1 1 t_length)))) (fun K => rfl) ?_
  rcases xb_if h with ⟨hc1391, h⟩ | ⟨hc1391, h⟩
  · refine xe_pos hc1391 (xe_k ?_)
    refine xe_sub [true, false] (lv' := [(0, .ref 3)]) rfl ?_
    exact xh_pg_add_1_42 ok A L S t_full t_length t_signs _ h
  · refine xe_neg hc1391 (xe_k ?_)
    refine xe_seg ok 6 (G := (fun K => if t_length < (Int32.ofNat 1200) then K (142, xm_i142, xm_I142, 0, 0, 19, [(0, .ref 3), (1, .int a1)], [], xw_W (xy_a A 2 t_signs) L (xy_s (xy_s S 1 2 t_full) 1 1 t_length)) else K (142, xm_i142, xm_I142, 0, 0, 42, [(0, .ref 3), (1, .int a1)], [], xw_W (xy_a A 2 t_signs) L (xy_s (xy_s S 1 2 t_full) 1 1 t_length)))) (fun K => rfl) ?_
    rcases xb_if h with ⟨hc1392, h⟩ | ⟨hc1392, h⟩
    · refine xe_pos hc1392 (xe_k ?_)
      refine xe_seg ok 6 (G := (fun K => if xr_in t_length 1200 = true then K (142, xm_i142, xm_I142, 0, 0, 29, [(0, .ref 3), (1, .int a1)], [], xw_W (xy_a A 2 (upd t_signs t_length.toNatClampNeg (vp_nar .char a1))) L (xy_s (xy_s S 1 2 t_full) 1 1 t_length)) else none)) (fun K => rfl) ?_
      obtain ⟨hg1393, h⟩ := xn_if h
      refine xe_pos hg1393 (xe_k ?_)
      refine xe_seg ok 7 (G := (fun K => K (142, xm_i142, xm_I142, 0, 0, 47, [(0, .ref 3), (1, .int a1)], [], xw_W (xy_a A 2 (upd t_signs t_length.toNatClampNeg (vp_nar .char a1))) L (xy_s (xy_s S 1 2 t_full) 1 1 (t_length + ((1 : Int32))))))) (fun K => rfl) ?_
      refine xe_k ?_
      refine xe_sub [false, false] (lv' := []) rfl ?_
      exact xh_pg_add_1_47 ok A L S t_full (t_length + ((1 : Int32))) (upd t_signs t_length.toNatClampNeg (vp_nar .char a1)) _ h
    · refine xe_neg hc1392 (xe_k ?_)
      refine xe_sub [true, false] (lv' := [(0, .ref 3)]) rfl ?_
      exact xh_pg_add_1_42 ok A L S t_full t_length t_signs _ h
theorem xh_pg_addBytes_1_3 {l : Launch} {g : xr_G} (ok : xr_OK xm_P) (A : Nat → Nat → Int32) (L : Nat → Nat → Int64) (S : Nat → Nat → Int32) (n : Nat) : ∀ (N : Nat) (t_full : Int32) (t_length : Int32) (t_signs : (Nat → Int32)) (v1 : Int64) (v3 : Int32) (r : (Unit × Int32 × Int32 × (Nat → Int32))), xf_pg_addBytes_3 n N t_full t_length t_signs v1 v3 = some r → xV xm_P l g (143, xm_i143, xm_I143, 0, 0, 3, [(0, .ref 3), (1, .long v1), (3, .int v3)], [], xw_W (xy_a A 2 t_signs) L (xy_s (xy_s S 1 2 t_full) 1 1 t_length)) (.inl none, xw_W (xy_a A 2 r.2.2.2) L (xy_s (xy_s S 1 2 r.2.1) 1 1 r.2.2.1)) := by
  intro N
  induction N with
  | zero => intro t_full t_length t_signs v1 v3 r h; cases h
  | succ N hk3 =>
    intro t_full t_length t_signs v1 v3 r h
    refine xe_seg ok 2 (G := (fun K => if v3 < (0 : Int32) then K (143, xm_i143, xm_I143, 0, 0, 32, [(0, .ref 3), (1, .long v1), (3, .int v3)], [], xw_W (xy_a A 2 t_signs) L (xy_s (xy_s S 1 2 t_full) 1 1 t_length)) else K (143, xm_i143, xm_I143, 0, 0, 7, [(0, .ref 3), (1, .long v1), (3, .int v3)], [], xw_W (xy_a A 2 t_signs) L (xy_s (xy_s S 1 2 t_full) 1 1 t_length)))) (fun K => rfl) ?_
    rcases xb_if h with ⟨hc1388, h⟩ | ⟨hc1388, h⟩
    · refine xe_pos hc1388 (xe_k ?_)
      obtain rfl := Option.some.inj h
      refine xe_seg ok 1 (G := (fun _ => some (.inl none, xw_W (xy_a A 2 t_signs) L (xy_s (xy_s S 1 2 t_full) 1 1 t_length)))) (fun K => rfl) ?_
      exact xe_ret
    · refine xe_neg hc1388 (xe_k ?_)
      refine xe_seg ok 3 (G := (fun K => xr_back K 143 xm_i143 xm_I143 0 0 9 [(0, .ref 3), (1, .long v1), (3, .int v3)] [] 78 false (K (27, xm_i27, xm_I27, 0, 0, 0, [(0, .long v1), (2, .int v3)], [], xw_W (xy_a A 2 t_signs) L (xy_s (xy_s S 1 2 t_full) 1 1 t_length))))) (fun K => rfl) ?_
      obtain ⟨q1389, hq1389, h⟩ := Option.bind_eq_some_iff.mp h
      have heq1389 := xh_xt_byteOf (l := l) (g := g) ok (xy_a A 2 t_signs) L (xy_s (xy_s S 1 2 t_full) 1 1 t_length) v1 v3 _ hq1389
      refine xe_call1 (ws' := xw_W (xy_a A 2 t_signs) L (xy_s (xy_s S 1 2 t_full) 1 1 t_length)) (by decide) heq1389 (Or.inl rfl) ?_
      refine xe_seg ok 3 (G := (fun K => if q1389 = (0 : Int32) then K (143, xm_i143, xm_I143, 0, 0, 26, [(0, .ref 3), (1, .long v1), (3, .int v3), (4, .int q1389)], [], xw_W (xy_a A 2 t_signs) L (xy_s (xy_s S 1 2 t_full) 1 1 t_length)) else K (143, xm_i143, xm_I143, 0, 0, 19, [(0, .ref 3), (1, .long v1), (3, .int v3), (4, .int q1389)], [], xw_W (xy_a A 2 t_signs) L (xy_s (xy_s S 1 2 t_full) 1 1 t_length)))) (fun K => rfl) ?_
      rcases xb_if h with ⟨hc1390, h⟩ | ⟨hc1390, h⟩
      · refine xe_pos hc1390 (xe_k ?_)
        refine xe_sub [true, true, true, false] (lv' := [(0, .ref 3), (1, .long v1), (3, .int v3)]) rfl ?_
        exact xh_pg_addBytes_1_26 ok A L S hk3 n t_full t_length t_signs v1 v3 _ h
      · refine xe_neg hc1390 (xe_k ?_)
        refine xe_seg ok 4 (G := (fun K => xr_back K 143 xm_i143 xm_I143 0 0 23 [(0, .ref 3), (1, .long v1), (3, .int v3), (4, .int q1389)] [] 78 true (K (142, xm_i142, xm_I142, 0, 0, 0, [(0, .ref 3), (1, .int (xe_i2c q1389))], [], xw_W (xy_a A 2 t_signs) L (xy_s (xy_s S 1 2 t_full) 1 1 t_length))))) (fun K => rfl) ?_
        obtain ⟨q1394, hq1394, h⟩ := Option.bind_eq_some_iff.mp h
        have heq1394 := xh_pg_add_1 (l := l) (g := g) ok (xy_a A 2 t_signs) L (xy_s (xy_s S 1 2 t_full) 1 1 t_length) t_full t_length t_signs (xe_i2c q1389) _ hq1394
        refine xe_call0 (ws' := xw_W (xy_a A 2 q1394.2.2.2) L (xy_s (xy_s S 1 2 q1394.2.1) 1 1 q1394.2.2.1)) (by decide) heq1394 (Or.inl rfl) ?_
        refine xe_sub [true, true, true, false] (lv' := [(0, .ref 3), (1, .long v1), (3, .int v3)]) rfl ?_
        exact xh_pg_addBytes_1_26 ok A L S hk3 n q1394.2.1 q1394.2.2.1 q1394.2.2.2 v1 v3 _ h
theorem xh_pg_addBytes_1 {l : Launch} {g : xr_G} (ok : xr_OK xm_P) (A : Nat → Nat → Int32) (L : Nat → Nat → Int64) (S : Nat → Nat → Int32) (n : Nat) : ∀ (t_full : Int32) (t_length : Int32) (t_signs : (Nat → Int32)) (a1 : Int64) (r : (Unit × Int32 × Int32 × (Nat → Int32))), xf_pg_addBytes n t_full t_length t_signs a1 = some r → xV xm_P l g (143, xm_i143, xm_I143, 0, 0, 0, [(0, .ref 3), (1, .long a1)], [], xw_W (xy_a A 2 t_signs) L (xy_s (xy_s S 1 2 t_full) 1 1 t_length)) (.inl none, xw_W (xy_a A 2 r.2.2.2) L (xy_s (xy_s S 1 2 r.2.1) 1 1 r.2.2.1)) := by
  intro t_full t_length t_signs a1 r h
  unfold xf_pg_addBytes at h
  refine xe_seg ok 2 (G := (fun K => K (143, xm_i143, xm_I143, 0, 0, 3, [(0, .ref 3), (1, .long a1), (3, .int ((56 : Int32)))], [], xw_W (xy_a A 2 t_signs) L (xy_s (xy_s S 1 2 t_full) 1 1 t_length)))) (fun K => rfl) ?_
  refine xe_k ?_
  refine xe_sub [true, true, true] (lv' := [(0, .ref 3), (1, .long a1), (3, .int ((56 : Int32)))]) rfl ?_
  exact xh_pg_addBytes_1_3 ok A L S n n t_full t_length t_signs a1 ((56 : Int32)) _ h
theorem xh_xt_say_0_59 {l : Launch} {g : xr_G} (ok : xr_OK xm_P) (A : Nat → Nat → Int32) (L : Nat → Nat → Int64) (S : Nat → Nat → Int32) {k6 : Int32 → Int32 → (Nat → Int32) → Int64 → Int32 → Int32 → Option ((Int32 ⊕ String) × Int32 × Int32 × (Nat → Int32))} (hk6 : ∀ (t_text_full : Int32) (t_text_length : Int32) (t_text_signs : (Nat → Int32)) (v1 : Int64) (v3 : Int32) (v4 : Int32) (r : ((Int32 ⊕ String) × Int32 × Int32 × (Nat → Int32))), k6 t_text_full t_text_length t_text_signs v1 v3 v4 = some r → xV xm_P l g (1, xm_i1, xm_I1, 0, 0, 6, [(0, .ref 2), (1, .long v1), (3, .int v3), (4, .int v4)], [], xw_W (xy_a A 2 t_text_signs) L (xy_s (xy_s S 1 2 t_text_full) 1 1 t_text_length)) (xo_i r.1, xw_W (xy_a A 2 r.2.2.2) L (xy_s (xy_s S 1 2 r.2.1) 1 1 r.2.2.1))) (n : Nat) : ∀ (t_text_full : Int32) (t_text_length : Int32) (t_text_signs : (Nat → Int32)) (v1 : Int64) (v4 : Int32) (s0 : Int32) (s1 : Int32) (r : ((Int32 ⊕ String) × Int32 × Int32 × (Nat → Int32))), xf_xt_say_59 k6 n t_text_full t_text_length t_text_signs v1 v4 s0 s1 = some r → xV xm_P l g (1, xm_i1, xm_I1, 0, 0, 59, [(0, .ref 2), (1, .long v1), (4, .int v4)], [.int s1, .int s0], xw_W (xy_a A 2 t_text_signs) L (xy_s (xy_s S 1 2 t_text_full) 1 1 t_text_length)) (xo_i r.1, xw_W (xy_a A 2 r.2.2.2) L (xy_s (xy_s S 1 2 r.2.1) 1 1 r.2.2.1)) := by
  intro t_text_full t_text_length t_text_signs v1 v4 s0 s1 r h
  unfold xf_xt_say_59 at h
  refine xe_seg ok 4 (G := (fun K => K (1, xm_i1, xm_I1, 0, 0, 6, [(0, .ref 2), (1, .long v1), (3, .int (s0 + s1)), (4, .int (v4 + (-8 : Int32)))], [], xw_W (xy_a A 2 t_text_signs) L (xy_s (xy_s S 1 2 t_text_full) 1 1 t_text_length)))) (fun K => rfl) ?_
  refine xe_k ?_
  refine xe_sub [true, true, true, true] (lv' := [(0, .ref 2), (1, .long v1), (3, .int (s0 + s1)), (4, .int (v4 + (-8 : Int32)))]) rfl ?_
  exact hk6 t_text_full t_text_length t_text_signs v1 (s0 + s1) (v4 + (-8 : Int32)) _ h
theorem xh_xt_say_0_48 {l : Launch} {g : xr_G} (ok : xr_OK xm_P) (A : Nat → Nat → Int32) (L : Nat → Nat → Int64) (S : Nat → Nat → Int32) {k6 : Int32 → Int32 → (Nat → Int32) → Int64 → Int32 → Int32 → Option ((Int32 ⊕ String) × Int32 × Int32 × (Nat → Int32))} (hk6 : ∀ (t_text_full : Int32) (t_text_length : Int32) (t_text_signs : (Nat → Int32)) (v1 : Int64) (v3 : Int32) (v4 : Int32) (r : ((Int32 ⊕ String) × Int32 × Int32 × (Nat → Int32))), k6 t_text_full t_text_length t_text_signs v1 v3 v4 = some r → xV xm_P l g (1, xm_i1, xm_I1, 0, 0, 6, [(0, .ref 2), (1, .long v1), (3, .int v3), (4, .int v4)], [], xw_W (xy_a A 2 t_text_signs) L (xy_s (xy_s S 1 2 t_text_full) 1 1 t_text_length)) (xo_i r.1, xw_W (xy_a A 2 r.2.2.2) L (xy_s (xy_s S 1 2 r.2.1) 1 1 r.2.2.1))) (n : Nat) : ∀ (t_text_full : Int32) (t_text_length : Int32) (t_text_signs : (Nat → Int32)) (v1 : Int64) (v3 : Int32) (v4 : Int32) (v5 : Int32) (r : ((Int32 ⊕ String) × Int32 × Int32 × (Nat → Int32))), xf_xt_say_48 k6 n t_text_full t_text_length t_text_signs v1 v3 v4 v5 = some r → xV xm_P l g (1, xm_i1, xm_I1, 0, 0, 48, [(0, .ref 2), (1, .long v1), (3, .int v3), (4, .int v4), (5, .int v5)], [], xw_W (xy_a A 2 t_text_signs) L (xy_s (xy_s S 1 2 t_text_full) 1 1 t_text_length)) (xo_i r.1, xw_W (xy_a A 2 r.2.2.2) L (xy_s (xy_s S 1 2 r.2.1) 1 1 r.2.2.1)) := by
  intro t_text_full t_text_length t_text_signs v1 v3 v4 v5 r h
  unfold xf_xt_say_48 at h
  refine xe_seg ok 3 (G := (fun K => if v5 = (0 : Int32) then K (1, xm_i1, xm_I1, 0, 0, 54, [(0, .ref 2), (1, .long v1), (3, .int v3), (4, .int v4), (5, .int v5)], [.int v3], xw_W (xy_a A 2 t_text_signs) L (xy_s (xy_s S 1 2 t_text_full) 1 1 t_text_length)) else K (1, xm_i1, xm_I1, 0, 0, 58, [(0, .ref 2), (1, .long v1), (3, .int v3), (4, .int v4), (5, .int v5)], [.int v3], xw_W (xy_a A 2 t_text_signs) L (xy_s (xy_s S 1 2 t_text_full) 1 1 t_text_length)))) (fun K => rfl) ?_
  rcases xb_if h with ⟨hc1398, h⟩ | ⟨hc1398, h⟩
  · refine xe_pos hc1398 (xe_k ?_)
    refine xe_seg ok 2 (G := (fun K => K (1, xm_i1, xm_I1, 0, 0, 59, [(0, .ref 2), (1, .long v1), (3, .int v3), (4, .int v4), (5, .int v5)], [.int ((0 : Int32)), .int v3], xw_W (xy_a A 2 t_text_signs) L (xy_s (xy_s S 1 2 t_text_full) 1 1 t_text_length)))) (fun K => rfl) ?_
    refine xe_k ?_
    refine xe_sub [true, true, false, true, false] (lv' := [(0, .ref 2), (1, .long v1), (4, .int v4)]) rfl ?_
    exact xh_xt_say_0_59 ok A L S hk6 n t_text_full t_text_length t_text_signs v1 v4 v3 ((0 : Int32)) _ h
  · refine xe_neg hc1398 (xe_k ?_)
    refine xe_seg ok 1 (G := (fun K => K (1, xm_i1, xm_I1, 0, 0, 59, [(0, .ref 2), (1, .long v1), (3, .int v3), (4, .int v4), (5, .int v5)], [.int ((1 : Int32)), .int v3], xw_W (xy_a A 2 t_text_signs) L (xy_s (xy_s S 1 2 t_text_full) 1 1 t_text_length)))) (fun K => rfl) ?_
    refine xe_k ?_
    refine xe_sub [true, true, false, true, false] (lv' := [(0, .ref 2), (1, .long v1), (4, .int v4)]) rfl ?_
    exact xh_xt_say_0_59 ok A L S hk6 n t_text_full t_text_length t_text_signs v1 v4 v3 ((1 : Int32)) _ h
theorem xh_xt_say_0_38 {l : Launch} {g : xr_G} (ok : xr_OK xm_P) (A : Nat → Nat → Int32) (L : Nat → Nat → Int64) (S : Nat → Nat → Int32) (n : Nat) : ∀ (t_text_full : Int32) (t_text_length : Int32) (t_text_signs : (Nat → Int32)) (r : ((Int32 ⊕ String) × Int32 × Int32 × (Nat → Int32))), xf_xt_say_38 n t_text_full t_text_length t_text_signs = some r → xV xm_P l g (1, xm_i1, xm_I1, 0, 0, 38, [], [], xw_W (xy_a A 2 t_text_signs) L (xy_s (xy_s S 1 2 t_text_full) 1 1 t_text_length)) (xo_i r.1, xw_W (xy_a A 2 r.2.2.2) L (xy_s (xy_s S 1 2 r.2.1) 1 1 r.2.2.1)) := by
  intro t_text_full t_text_length t_text_signs r h
  unfold xf_xt_say_38 at h
  obtain rfl := Option.some.inj h
  refine xe_seg ok 1 (G := (fun _ => some (.inr "java/lang/IllegalArgumentException", xw_W (xy_a A 2 t_text_signs) L (xy_s (xy_s S 1 2 t_text_full) 1 1 t_text_length)))) (fun K => rfl) ?_
  exact xe_ret
theorem xh_xt_say_0_6 {l : Launch} {g : xr_G} (ok : xr_OK xm_P) (A : Nat → Nat → Int32) (L : Nat → Nat → Int64) (S : Nat → Nat → Int32) (n : Nat) : ∀ (N : Nat) (t_text_full : Int32) (t_text_length : Int32) (t_text_signs : (Nat → Int32)) (v1 : Int64) (v3 : Int32) (v4 : Int32) (r : ((Int32 ⊕ String) × Int32 × Int32 × (Nat → Int32))), xf_xt_say_6 n N t_text_full t_text_length t_text_signs v1 v3 v4 = some r → xV xm_P l g (1, xm_i1, xm_I1, 0, 0, 6, [(0, .ref 2), (1, .long v1), (3, .int v3), (4, .int v4)], [], xw_W (xy_a A 2 t_text_signs) L (xy_s (xy_s S 1 2 t_text_full) 1 1 t_text_length)) (xo_i r.1, xw_W (xy_a A 2 r.2.2.2) L (xy_s (xy_s S 1 2 r.2.1) 1 1 r.2.2.1)) := by
  intro N
  induction N with
  | zero => intro t_text_full t_text_length t_text_signs v1 v3 v4 r h; cases h
  | succ N hk6 =>
    intro t_text_full t_text_length t_text_signs v1 v3 v4 r h
    refine xe_seg ok 2 (G := (fun K => if v4 < (0 : Int32) then K (1, xm_i1, xm_I1, 0, 0, 67, [(0, .ref 2), (1, .long v1), (3, .int v3), (4, .int v4)], [], xw_W (xy_a A 2 t_text_signs) L (xy_s (xy_s S 1 2 t_text_full) 1 1 t_text_length)) else K (1, xm_i1, xm_I1, 0, 0, 11, [(0, .ref 2), (1, .long v1), (3, .int v3), (4, .int v4)], [], xw_W (xy_a A 2 t_text_signs) L (xy_s (xy_s S 1 2 t_text_full) 1 1 t_text_length)))) (fun K => rfl) ?_
    rcases xb_if h with ⟨hc1386, h⟩ | ⟨hc1386, h⟩
    · refine xe_pos hc1386 (xe_k ?_)
      refine xe_seg ok 7 (G := (fun K => if ((1200 : Int32)) < (t_text_length + v3) then K (1, xm_i1, xm_I1, 0, 0, 82, [(0, .ref 2), (1, .long v1), (3, .int v3), (4, .int v4)], [], xw_W (xy_a A 2 t_text_signs) L (xy_s (xy_s S 1 2 t_text_full) 1 1 t_text_length)) else K (1, xm_i1, xm_I1, 0, 0, 92, [(0, .ref 2), (1, .long v1), (3, .int v3), (4, .int v4)], [], xw_W (xy_a A 2 t_text_signs) L (xy_s (xy_s S 1 2 t_text_full) 1 1 t_text_length)))) (fun K => rfl) ?_
      rcases xb_if h with ⟨hc1387, h⟩ | ⟨hc1387, h⟩
      · refine xe_pos hc1387 (xe_k ?_)
        obtain rfl := Option.some.inj h
        refine xe_seg ok 1 (G := (fun _ => some (.inr "java/lang/IllegalStateException", xw_W (xy_a A 2 t_text_signs) L (xy_s (xy_s S 1 2 t_text_full) 1 1 t_text_length)))) (fun K => rfl) ?_
        exact xe_ret
      · refine xe_neg hc1387 (xe_k ?_)
        refine xe_seg ok 4 (G := (fun K => xr_back K 1 xm_i1 xm_I1 0 0 97 [(0, .ref 2), (1, .long v1), (3, .int v3), (4, .int v4)] [] 78 true (K (143, xm_i143, xm_I143, 0, 0, 0, [(0, .ref 3), (1, .long v1)], [], xw_W (xy_a A 2 t_text_signs) L (xy_s (xy_s S 1 2 t_text_full) 1 1 t_text_length))))) (fun K => rfl) ?_
        obtain ⟨q1395, hq1395, h⟩ := Option.bind_eq_some_iff.mp h
        have heq1395 := xh_pg_addBytes_1 (l := l) (g := g) ok (xy_a A 2 t_text_signs) L (xy_s (xy_s S 1 2 t_text_full) 1 1 t_text_length) n t_text_full t_text_length t_text_signs v1 _ hq1395
        refine xe_call0 (ws' := xw_W (xy_a A 2 q1395.2.2.2) L (xy_s (xy_s S 1 2 q1395.2.1) 1 1 q1395.2.2.1)) (by decide) heq1395 (Or.inl rfl) ?_
        obtain rfl := Option.some.inj h
        refine xe_seg ok 4 (G := (fun _ => some (.inl (some (.int q1395.2.2.1)), xw_W (xy_a A 2 q1395.2.2.2) L (xy_s (xy_s S 1 2 q1395.2.1) 1 1 q1395.2.2.1)))) (fun K => rfl) ?_
        exact xe_ret
    · refine xe_neg hc1386 (xe_k ?_)
      refine xe_seg ok 3 (G := (fun K => xr_back K 1 xm_i1 xm_I1 0 0 14 [(0, .ref 2), (1, .long v1), (3, .int v3), (4, .int v4)] [] 78 true (K (27, xm_i27, xm_I27, 0, 0, 0, [(0, .long v1), (2, .int v4)], [], xw_W (xy_a A 2 t_text_signs) L (xy_s (xy_s S 1 2 t_text_full) 1 1 t_text_length))))) (fun K => rfl) ?_
      obtain ⟨q1396, hq1396, h⟩ := Option.bind_eq_some_iff.mp h
      have heq1396 := xh_xt_byteOf (l := l) (g := g) ok (xy_a A 2 t_text_signs) L (xy_s (xy_s S 1 2 t_text_full) 1 1 t_text_length) v1 v4 _ hq1396
      refine xe_call1 (ws' := xw_W (xy_a A 2 t_text_signs) L (xy_s (xy_s S 1 2 t_text_full) 1 1 t_text_length)) (by decide) heq1396 (Or.inl rfl) ?_
      refine xe_seg ok 3 (G := (fun K => if q1396 = (0 : Int32) then K (1, xm_i1, xm_I1, 0, 0, 48, [(0, .ref 2), (1, .long v1), (3, .int v3), (4, .int v4), (5, .int q1396)], [], xw_W (xy_a A 2 t_text_signs) L (xy_s (xy_s S 1 2 t_text_full) 1 1 t_text_length)) else K (1, xm_i1, xm_I1, 0, 0, 24, [(0, .ref 2), (1, .long v1), (3, .int v3), (4, .int v4), (5, .int q1396)], [], xw_W (xy_a A 2 t_text_signs) L (xy_s (xy_s S 1 2 t_text_full) 1 1 t_text_length)))) (fun K => rfl) ?_
      rcases xb_if h with ⟨hc1397, h⟩ | ⟨hc1397, h⟩
      · refine xe_pos hc1397 (xe_k ?_)
        refine xe_sub [true, true, true, true, true] (lv' := [(0, .ref 2), (1, .long v1), (3, .int v3), (4, .int v4), (5, .int q1396)]) rfl ?_
        exact xh_xt_say_0_48 ok A L S hk6 n t_text_full t_text_length t_text_signs v1 v3 v4 q1396 _ h
      · refine xe_neg hc1397 (xe_k ?_)
        refine xe_seg ok 3 (G := (fun K => if q1396 < ((32 : Int32)) then K (1, xm_i1, xm_I1, 0, 0, 38, [(0, .ref 2), (1, .long v1), (3, .int v3), (4, .int v4), (5, .int q1396)], [], xw_W (xy_a A 2 t_text_signs) L (xy_s (xy_s S 1 2 t_text_full) 1 1 t_text_length)) else K (1, xm_i1, xm_I1, 0, 0, 31, [(0, .ref 2), (1, .long v1), (3, .int v3), (4, .int v4), (5, .int q1396)], [], xw_W (xy_a A 2 t_text_signs) L (xy_s (xy_s S 1 2 t_text_full) 1 1 t_text_length)))) (fun K => rfl) ?_
        rcases xb_if h with ⟨hc1399, h⟩ | ⟨hc1399, h⟩
        · refine xe_pos hc1399 (xe_k ?_)
          refine xe_sub [false, false, false, false, false] (lv' := []) rfl ?_
          exact xh_xt_say_0_38 ok A L S n t_text_full t_text_length t_text_signs _ h
        · refine xe_neg hc1399 (xe_k ?_)
          refine xe_seg ok 3 (G := (fun K => if ((126 : Int32)) < q1396 then K (1, xm_i1, xm_I1, 0, 0, 38, [(0, .ref 2), (1, .long v1), (3, .int v3), (4, .int v4), (5, .int q1396)], [], xw_W (xy_a A 2 t_text_signs) L (xy_s (xy_s S 1 2 t_text_full) 1 1 t_text_length)) else K (1, xm_i1, xm_I1, 0, 0, 48, [(0, .ref 2), (1, .long v1), (3, .int v3), (4, .int v4), (5, .int q1396)], [], xw_W (xy_a A 2 t_text_signs) L (xy_s (xy_s S 1 2 t_text_full) 1 1 t_text_length)))) (fun K => rfl) ?_
          rcases xb_if h with ⟨hc1400, h⟩ | ⟨hc1400, h⟩
          · refine xe_pos hc1400 (xe_k ?_)
            refine xe_sub [false, false, false, false, false] (lv' := []) rfl ?_
            exact xh_xt_say_0_38 ok A L S n t_text_full t_text_length t_text_signs _ h
          · refine xe_neg hc1400 (xe_k ?_)
            refine xe_sub [true, true, true, true, true] (lv' := [(0, .ref 2), (1, .long v1), (3, .int v3), (4, .int v4), (5, .int q1396)]) rfl ?_
            exact xh_xt_say_0_48 ok A L S hk6 n t_text_full t_text_length t_text_signs v1 v3 v4 q1396 _ h
theorem xh_xt_say_0 {l : Launch} {g : xr_G} (ok : xr_OK xm_P) (A : Nat → Nat → Int32) (L : Nat → Nat → Int64) (S : Nat → Nat → Int32) (n : Nat) : ∀ (t_text_full : Int32) (t_text_length : Int32) (t_text_signs : (Nat → Int32)) (a1 : Int64) (r : ((Int32 ⊕ String) × Int32 × Int32 × (Nat → Int32))), xf_xt_say n t_text_full t_text_length t_text_signs a1 = some r → xV xm_P l g (1, xm_i1, xm_I1, 0, 0, 0, [(0, .ref 2), (1, .long a1)], [], xw_W (xy_a A 2 t_text_signs) L (xy_s (xy_s S 1 2 t_text_full) 1 1 t_text_length)) (xo_i r.1, xw_W (xy_a A 2 r.2.2.2) L (xy_s (xy_s S 1 2 r.2.1) 1 1 r.2.2.1)) := by
  intro t_text_full t_text_length t_text_signs a1 r h
  unfold xf_xt_say at h
  refine xe_seg ok 4 (G := (fun K => K (1, xm_i1, xm_I1, 0, 0, 6, [(0, .ref 2), (1, .long a1), (3, .int ((0 : Int32))), (4, .int ((56 : Int32)))], [], xw_W (xy_a A 2 t_text_signs) L (xy_s (xy_s S 1 2 t_text_full) 1 1 t_text_length)))) (fun K => rfl) ?_
  refine xe_k ?_
  refine xe_sub [true, true, true, true] (lv' := [(0, .ref 2), (1, .long a1), (3, .int ((0 : Int32))), (4, .int ((56 : Int32)))]) rfl ?_
  exact xh_xt_say_0_6 ok A L S n n t_text_full t_text_length t_text_signs a1 ((0 : Int32)) ((56 : Int32)) _ h
theorem xh_la_say_0_77 {l : Launch} {g : xr_G} (ok : xr_OK xm_P) (A : Nat → Nat → Int32) (L : Nat → Nat → Int64) (S : Nat → Nat → Int32) (n_p3 : Nat) (n : Nat) : ∀ (p1_text_full : Int32) (p1_text_length : Int32) (p1_text_signs : (Nat → Int32)) (p3 : (Nat → Int64)) (a2 : Int64) (r : (Int32 × Int32 × Int32 × (Nat → Int32) × (Nat → Int64))), xf_la_say n_p3 n p1_text_full p1_text_length p1_text_signs p3 a2 = some r → xV xm_P l g (171, xm_i171, xm_I171, 0, 0, 0, [(0, .ref 2), (1, .long a2), (3, .ref 79)], [], xw_W (xy_a A 2 p1_text_signs) (xy_l L 77 p3) (xy_s (xy_s S 1 2 p1_text_full) 1 1 p1_text_length)) (.inl (some (.int r.1)), xw_W (xy_a A 2 r.2.2.2.1) (xy_l L 77 r.2.2.2.2) (xy_s (xy_s S 1 2 r.2.1) 1 1 r.2.2.1)) := by
  intro p1_text_full p1_text_length p1_text_signs p3 a2 r h
  unfold xf_la_say at h
  refine xe_seg ok 5 (G := (fun K => xr_back K 171 xm_i171 xm_I171 2 12 4 [(0, .ref 2), (1, .long a2), (3, .ref 79)] [.int ((0 : Int32)), .ref 79] 78 true (K (1, xm_i1, xm_I1, 0, 0, 0, [(0, .ref 2), (1, .long a2)], [], xw_W (xy_a A 2 p1_text_signs) (xy_l L 77 p3) (xy_s (xy_s S 1 2 p1_text_full) 1 1 p1_text_length))))) (fun K => rfl) ?_
  obtain ⟨q1401, hq1401, h⟩ := Option.bind_eq_some_iff.mp h
  have heq1401 := xh_xt_say_0 (l := l) (g := g) ok (xy_a A 2 p1_text_signs) (xy_l L 77 p3) (xy_s (xy_s S 1 2 p1_text_full) 1 1 p1_text_length) n p1_text_full p1_text_length p1_text_signs a2 _ hq1401
  rcases xb_sum h with ⟨r1402, hr1402, h⟩ | ⟨r1402, hr1402, h⟩
  · rw [hr1402] at heq1401
    refine xe_call1 (ws' := xw_W (xy_a A 2 q1401.2.2.2) (xy_l L 77 p3) (xy_s (xy_s S 1 2 q1401.2.1) 1 1 q1401.2.2.1)) (by decide) heq1401 (Or.inl rfl) ?_
    refine xe_seg ok 2 (G := (fun K => if xr_in ((0 : Int32)) 1 = true then K (171, xm_i171, xm_I171, 2, 12, 9, [(0, .ref 2), (1, .long a2), (3, .ref 79)], [], xw_W (xy_a A 2 q1401.2.2.2) (xy_l L 77 (vp_updL p3 ((0 : Int32)).toNatClampNeg r1402.toInt64)) (xy_s (xy_s S 1 2 q1401.2.1) 1 1 q1401.2.2.1)) else none)) (fun K => rfl) ?_
    obtain ⟨hg1403, h⟩ := xn_if h
    refine xe_pos hg1403 (xe_k ?_)
    obtain rfl := Option.some.inj h
    refine xe_seg ok 3 (G := (fun _ => some (.inl (some (.int ((0 : Int32)))), xw_W (xy_a A 2 q1401.2.2.2) (xy_l L 77 (vp_updL p3 ((0 : Int32)).toNatClampNeg r1402.toInt64)) (xy_s (xy_s S 1 2 q1401.2.1) 1 1 q1401.2.2.1)))) (fun K => rfl) ?_
    exact xe_ret
  · rw [hr1402] at heq1401
    rcases xb_if h with ⟨hc1404, h⟩ | ⟨hc1404, h⟩
    · subst hc1404
      refine xe_catch (ws' := xw_W (xy_a A 2 q1401.2.2.2) (xy_l L 77 p3) (xy_s (xy_s S 1 2 q1401.2.1) 1 1 q1401.2.2.1)) (by decide) heq1401 (q' := (171, xm_i171, xm_I171, 2, 12, 14, [(0, .ref 2), (1, .long a2), (3, .ref 79)], [], xw_W (xy_a A 2 q1401.2.2.2) (xy_l L 77 p3) (xy_s (xy_s S 1 2 q1401.2.1) 1 1 q1401.2.2.1))) (fun K => rfl) ?_
      obtain rfl := Option.some.inj h
      refine xe_seg ok 2 (G := (fun _ => some (.inl (some (.int ((1 : Int32)))), xw_W (xy_a A 2 q1401.2.2.2) (xy_l L 77 p3) (xy_s (xy_s S 1 2 q1401.2.1) 1 1 q1401.2.2.1)))) (fun K => rfl) ?_
      exact xe_ret
    ·
      rcases xb_if h with ⟨hc1405, h⟩ | ⟨hc1405, h⟩
      · subst hc1405
        refine xe_catch (ws' := xw_W (xy_a A 2 q1401.2.2.2) (xy_l L 77 p3) (xy_s (xy_s S 1 2 q1401.2.1) 1 1 q1401.2.2.1)) (by decide) heq1401 (q' := (171, xm_i171, xm_I171, 2, 12, 18, [(0, .ref 2), (1, .long a2), (3, .ref 79)], [], xw_W (xy_a A 2 q1401.2.2.2) (xy_l L 77 p3) (xy_s (xy_s S 1 2 q1401.2.1) 1 1 q1401.2.2.1))) (fun K => rfl) ?_
        obtain rfl := Option.some.inj h
        refine xe_seg ok 2 (G := (fun _ => some (.inl (some (.int ((2 : Int32)))), xw_W (xy_a A 2 q1401.2.2.2) (xy_l L 77 p3) (xy_s (xy_s S 1 2 q1401.2.1) 1 1 q1401.2.2.1)))) (fun K => rfl) ?_
        exact xe_ret
      · cases h
theorem xh_xt_trim_0_15 {l : Launch} {g : xr_G} (ok : xr_OK xm_P) (A : Nat → Nat → Int32) (L : Nat → Nat → Int64) (S : Nat → Nat → Int32) : ∀ (t_text_length : Int32) (r : ((Int32 ⊕ String) × Int32)), xf_xt_trim_15  t_text_length = some r → xV xm_P l g (2, xm_i2, xm_I2, 0, 0, 15, [], [], xw_W A L (xy_s S 1 1 t_text_length)) (xo_i r.1, xw_W A L (xy_s S 1 1 r.2)) := by
  intro t_text_length r h
  unfold xf_xt_trim_15 at h
  obtain rfl := Option.some.inj h
  refine xe_seg ok 1 (G := (fun _ => some (.inr "java/lang/IllegalArgumentException", xw_W A L (xy_s S 1 1 t_text_length)))) (fun K => rfl) ?_
  exact xe_ret
theorem xh_xt_trim_0 {l : Launch} {g : xr_G} (ok : xr_OK xm_P) (A : Nat → Nat → Int32) (L : Nat → Nat → Int64) (S : Nat → Nat → Int32) : ∀ (t_text_length : Int32) (a1 : Int32) (r : ((Int32 ⊕ String) × Int32)), xf_xt_trim  t_text_length a1 = some r → xV xm_P l g (2, xm_i2, xm_I2, 0, 0, 0, [(0, .ref 2), (1, .int a1)], [], xw_W A L (xy_s S 1 1 t_text_length)) (xo_i r.1, xw_W A L (xy_s S 1 1 r.2)) := by
  intro t_text_length a1 r h
  unfold xf_xt_trim at h
  refine xe_seg ok 2 (G := (fun K => if a1 < (0 : Int32) then K (2, xm_i2, xm_I2, 0, 0, 15, [(0, .ref 2), (1, .int a1)], [], xw_W A L (xy_s S 1 1 t_text_length)) else K (2, xm_i2, xm_I2, 0, 0, 4, [(0, .ref 2), (1, .int a1)], [], xw_W A L (xy_s S 1 1 t_text_length)))) (fun K => rfl) ?_
  rcases xb_if h with ⟨hc1406, h⟩ | ⟨hc1406, h⟩
  · refine xe_pos hc1406 (xe_k ?_)
    refine xe_sub [false, false] (lv' := []) rfl ?_
    exact xh_xt_trim_0_15 ok A L S t_text_length _ h
  · refine xe_neg hc1406 (xe_k ?_)
    refine xe_seg ok 5 (G := (fun K => if t_text_length < a1 then K (2, xm_i2, xm_I2, 0, 0, 15, [(0, .ref 2), (1, .int a1)], [], xw_W A L (xy_s S 1 1 t_text_length)) else K (2, xm_i2, xm_I2, 0, 0, 25, [(0, .ref 2), (1, .int a1)], [], xw_W A L (xy_s S 1 1 t_text_length)))) (fun K => rfl) ?_
    rcases xb_if h with ⟨hc1407, h⟩ | ⟨hc1407, h⟩
    · refine xe_pos hc1407 (xe_k ?_)
      refine xe_sub [false, false] (lv' := []) rfl ?_
      exact xh_xt_trim_0_15 ok A L S t_text_length _ h
    · refine xe_neg hc1407 (xe_k ?_)
      obtain rfl := Option.some.inj h
      refine xe_seg ok 11 (G := (fun _ => some (.inl (some (.int (t_text_length - a1))), xw_W A L (xy_s S 1 1 (t_text_length - a1))))) (fun K => rfl) ?_
      exact xe_ret
theorem xh_la_trim_0_77 {l : Launch} {g : xr_G} (ok : xr_OK xm_P) (A : Nat → Nat → Int32) (L : Nat → Nat → Int64) (S : Nat → Nat → Int32) (n_p3 : Nat) : ∀ (p1_text_length : Int32) (p3 : (Nat → Int64)) (a2 : Int32) (r : (Int32 × Int32 × (Nat → Int64))), xf_la_trim n_p3 p1_text_length p3 a2 = some r → xV xm_P l g (172, xm_i172, xm_I172, 0, 0, 0, [(0, .ref 2), (1, .int a2), (2, .ref 79)], [], xw_W A (xy_l L 77 p3) (xy_s S 1 1 p1_text_length)) (.inl (some (.int r.1)), xw_W A (xy_l L 77 r.2.2) (xy_s S 1 1 r.2.1)) := by
  intro p1_text_length p3 a2 r h
  unfold xf_la_trim at h
  refine xe_seg ok 5 (G := (fun K => xr_back K 172 xm_i172 xm_I172 1 6 4 [(0, .ref 2), (1, .int a2), (2, .ref 79)] [.int ((0 : Int32)), .ref 79] 78 true (K (2, xm_i2, xm_I2, 0, 0, 0, [(0, .ref 2), (1, .int a2)], [], xw_W A (xy_l L 77 p3) (xy_s S 1 1 p1_text_length))))) (fun K => rfl) ?_
  obtain ⟨q1408, hq1408, h⟩ := Option.bind_eq_some_iff.mp h
  have heq1408 := xh_xt_trim_0 (l := l) (g := g) ok A (xy_l L 77 p3) (xy_s S 1 1 p1_text_length) p1_text_length a2 _ hq1408
  rcases xb_sum h with ⟨r1409, hr1409, h⟩ | ⟨r1409, hr1409, h⟩
  · rw [hr1409] at heq1408
    refine xe_call1 (ws' := xw_W A (xy_l L 77 p3) (xy_s S 1 1 q1408.2)) (by decide) heq1408 (Or.inl rfl) ?_
    refine xe_seg ok 2 (G := (fun K => if xr_in ((0 : Int32)) 1 = true then K (172, xm_i172, xm_I172, 1, 6, 9, [(0, .ref 2), (1, .int a2), (2, .ref 79)], [], xw_W A (xy_l L 77 (vp_updL p3 ((0 : Int32)).toNatClampNeg r1409.toInt64)) (xy_s S 1 1 q1408.2)) else none)) (fun K => rfl) ?_
    obtain ⟨hg1410, h⟩ := xn_if h
    refine xe_pos hg1410 (xe_k ?_)
    obtain rfl := Option.some.inj h
    refine xe_seg ok 3 (G := (fun _ => some (.inl (some (.int ((0 : Int32)))), xw_W A (xy_l L 77 (vp_updL p3 ((0 : Int32)).toNatClampNeg r1409.toInt64)) (xy_s S 1 1 q1408.2)))) (fun K => rfl) ?_
    exact xe_ret
  · rw [hr1409] at heq1408
    rcases xb_if h with ⟨hc1411, h⟩ | ⟨hc1411, h⟩
    · subst hc1411
      refine xe_catch (ws' := xw_W A (xy_l L 77 p3) (xy_s S 1 1 q1408.2)) (by decide) heq1408 (q' := (172, xm_i172, xm_I172, 1, 6, 13, [(0, .ref 2), (1, .int a2), (2, .ref 79)], [], xw_W A (xy_l L 77 p3) (xy_s S 1 1 q1408.2))) (fun K => rfl) ?_
      obtain rfl := Option.some.inj h
      refine xe_seg ok 2 (G := (fun _ => some (.inl (some (.int ((1 : Int32)))), xw_W A (xy_l L 77 p3) (xy_s S 1 1 q1408.2)))) (fun K => rfl) ?_
      exact xe_ret
    · cases h
theorem xh_xt_charAt_0_15 {l : Launch} {g : xr_G} (ok : xr_OK xm_P) (A : Nat → Nat → Int32) (L : Nat → Nat → Int64) (S : Nat → Nat → Int32) (t_text_length : Int32) (t_text_signs : (Nat → Int32)) : ∀  (r : ((Int32 ⊕ String))), xf_xt_charAt_15 t_text_length t_text_signs  = some r → xV xm_P l g (3, xm_i3, xm_I3, 0, 0, 15, [], [], xw_W (xy_a A 2 t_text_signs) L (xy_s S 1 1 t_text_length)) (xo_i r, xw_W (xy_a A 2 t_text_signs) L (xy_s S 1 1 t_text_length)) := by
  intro  r h
  unfold xf_xt_charAt_15 at h
  obtain rfl := Option.some.inj h
  refine xe_seg ok 1 (G := (fun _ => some (.inr "java/lang/IllegalArgumentException", xw_W (xy_a A 2 t_text_signs) L (xy_s S 1 1 t_text_length)))) (fun K => rfl) ?_
  exact xe_ret
theorem xh_xt_charAt_0 {l : Launch} {g : xr_G} (ok : xr_OK xm_P) (A : Nat → Nat → Int32) (L : Nat → Nat → Int64) (S : Nat → Nat → Int32) (t_text_length : Int32) (t_text_signs : (Nat → Int32)) : ∀ (a1 : Int32) (r : ((Int32 ⊕ String))), xf_xt_charAt t_text_length t_text_signs a1 = some r → xV xm_P l g (3, xm_i3, xm_I3, 0, 0, 0, [(0, .ref 2), (1, .int a1)], [], xw_W (xy_a A 2 t_text_signs) L (xy_s S 1 1 t_text_length)) (xo_i r, xw_W (xy_a A 2 t_text_signs) L (xy_s S 1 1 t_text_length)) := by
  intro a1 r h
  unfold xf_xt_charAt at h
  refine xe_seg ok 2 (G := (fun K => if a1 < (0 : Int32) then K (3, xm_i3, xm_I3, 0, 0, 15, [(0, .ref 2), (1, .int a1)], [], xw_W (xy_a A 2 t_text_signs) L (xy_s S 1 1 t_text_length)) else K (3, xm_i3, xm_I3, 0, 0, 4, [(0, .ref 2), (1, .int a1)], [], xw_W (xy_a A 2 t_text_signs) L (xy_s S 1 1 t_text_length)))) (fun K => rfl) ?_
  rcases xb_if h with ⟨hc1412, h⟩ | ⟨hc1412, h⟩
  · refine xe_pos hc1412 (xe_k ?_)
    refine xe_sub [false, false] (lv' := []) rfl ?_
    exact xh_xt_charAt_0_15 ok A L S t_text_length t_text_signs _ h
  · refine xe_neg hc1412 (xe_k ?_)
    refine xe_seg ok 5 (G := (fun K => if a1 < t_text_length then K (3, xm_i3, xm_I3, 0, 0, 25, [(0, .ref 2), (1, .int a1)], [], xw_W (xy_a A 2 t_text_signs) L (xy_s S 1 1 t_text_length)) else K (3, xm_i3, xm_I3, 0, 0, 15, [(0, .ref 2), (1, .int a1)], [], xw_W (xy_a A 2 t_text_signs) L (xy_s S 1 1 t_text_length)))) (fun K => rfl) ?_
    rcases xb_if h with ⟨hc1413, h⟩ | ⟨hc1413, h⟩
    · refine xe_pos hc1413 (xe_k ?_)
      refine xe_seg ok 4 (G := (fun K => xr_back K 3 xm_i3 xm_I3 0 0 30 [(0, .ref 2), (1, .int a1)] [] 78 true (K (144, xm_i144, xm_I144, 0, 0, 0, [(0, .ref 3), (1, .int a1)], [], xw_W (xy_a A 2 t_text_signs) L (xy_s S 1 1 t_text_length))))) (fun K => rfl) ?_
      obtain ⟨q1414, hq1414, h⟩ := Option.bind_eq_some_iff.mp h
      have heq1414 := xh_pg_signAt_1 (l := l) (g := g) ok (xy_a A 2 t_text_signs) L (xy_s S 1 1 t_text_length) t_text_length t_text_signs a1 _ hq1414
      refine xe_call1 (ws' := xw_W (xy_a A 2 t_text_signs) L (xy_s S 1 1 t_text_length)) (by decide) heq1414 (Or.inl rfl) ?_
      obtain rfl := Option.some.inj h
      refine xe_seg ok 1 (G := (fun _ => some (.inl (some (.int q1414)), xw_W (xy_a A 2 t_text_signs) L (xy_s S 1 1 t_text_length)))) (fun K => rfl) ?_
      exact xe_ret
    · refine xe_neg hc1413 (xe_k ?_)
      refine xe_sub [false, false] (lv' := []) rfl ?_
      exact xh_xt_charAt_0_15 ok A L S t_text_length t_text_signs _ h
theorem xh_la_charAt_0_77 {l : Launch} {g : xr_G} (ok : xr_OK xm_P) (A : Nat → Nat → Int32) (L : Nat → Nat → Int64) (S : Nat → Nat → Int32) (p1_text_length : Int32) (p1_text_signs : (Nat → Int32)) (n_p3 : Nat) : ∀ (p3 : (Nat → Int64)) (a2 : Int32) (r : (Int32 × (Nat → Int64))), xf_la_charAt p1_text_length p1_text_signs n_p3 p3 a2 = some r → xV xm_P l g (173, xm_i173, xm_I173, 0, 0, 0, [(0, .ref 2), (1, .int a2), (2, .ref 79)], [], xw_W (xy_a A 2 p1_text_signs) (xy_l L 77 p3) (xy_s S 1 1 p1_text_length)) (.inl (some (.int r.1)), xw_W (xy_a A 2 p1_text_signs) (xy_l L 77 r.2) (xy_s S 1 1 p1_text_length)) := by
  intro p3 a2 r h
  unfold xf_la_charAt at h
  refine xe_seg ok 5 (G := (fun K => xr_back K 173 xm_i173 xm_I173 1 6 4 [(0, .ref 2), (1, .int a2), (2, .ref 79)] [.int ((0 : Int32)), .ref 79] 78 true (K (3, xm_i3, xm_I3, 0, 0, 0, [(0, .ref 2), (1, .int a2)], [], xw_W (xy_a A 2 p1_text_signs) (xy_l L 77 p3) (xy_s S 1 1 p1_text_length))))) (fun K => rfl) ?_
  obtain ⟨q1415, hq1415, h⟩ := Option.bind_eq_some_iff.mp h
  have heq1415 := xh_xt_charAt_0 (l := l) (g := g) ok (xy_a A 2 p1_text_signs) (xy_l L 77 p3) (xy_s S 1 1 p1_text_length) p1_text_length p1_text_signs a2 _ hq1415
  rcases xb_sum h with ⟨r1416, hr1416, h⟩ | ⟨r1416, hr1416, h⟩
  · rw [hr1416] at heq1415
    refine xe_call1 (ws' := xw_W (xy_a A 2 p1_text_signs) (xy_l L 77 p3) (xy_s S 1 1 p1_text_length)) (by decide) heq1415 (Or.inl rfl) ?_
    refine xe_seg ok 2 (G := (fun K => if xr_in ((0 : Int32)) 1 = true then K (173, xm_i173, xm_I173, 1, 6, 9, [(0, .ref 2), (1, .int a2), (2, .ref 79)], [], xw_W (xy_a A 2 p1_text_signs) (xy_l L 77 (vp_updL p3 ((0 : Int32)).toNatClampNeg r1416.toInt64)) (xy_s S 1 1 p1_text_length)) else none)) (fun K => rfl) ?_
    obtain ⟨hg1417, h⟩ := xn_if h
    refine xe_pos hg1417 (xe_k ?_)
    obtain rfl := Option.some.inj h
    refine xe_seg ok 3 (G := (fun _ => some (.inl (some (.int ((0 : Int32)))), xw_W (xy_a A 2 p1_text_signs) (xy_l L 77 (vp_updL p3 ((0 : Int32)).toNatClampNeg r1416.toInt64)) (xy_s S 1 1 p1_text_length)))) (fun K => rfl) ?_
    exact xe_ret
  · rw [hr1416] at heq1415
    rcases xb_if h with ⟨hc1418, h⟩ | ⟨hc1418, h⟩
    · subst hc1418
      refine xe_catch (ws' := xw_W (xy_a A 2 p1_text_signs) (xy_l L 77 p3) (xy_s S 1 1 p1_text_length)) (by decide) heq1415 (q' := (173, xm_i173, xm_I173, 1, 6, 13, [(0, .ref 2), (1, .int a2), (2, .ref 79)], [], xw_W (xy_a A 2 p1_text_signs) (xy_l L 77 p3) (xy_s S 1 1 p1_text_length))) (fun K => rfl) ?_
      obtain rfl := Option.some.inj h
      refine xe_seg ok 2 (G := (fun _ => some (.inl (some (.int ((1 : Int32)))), xw_W (xy_a A 2 p1_text_signs) (xy_l L 77 p3) (xy_s S 1 1 p1_text_length)))) (fun K => rfl) ?_
      exact xe_ret
    · cases h
theorem xh_xt_refuseUnless {l : Launch} {g : xr_G} (ok : xr_OK xm_P) (A : Nat → Nat → Int32) (L : Nat → Nat → Int64) (S : Nat → Nat → Int32) : ∀ (a1 : Int32) (r : ((Unit ⊕ String))), xf_xt_refuseUnless  a1 = some r → xV xm_P l g (21, xm_i21, xm_I21, 0, 0, 0, [(0, .int a1)], [], xw_W A L S) (xo_v r, xw_W A L S) := by
  intro a1 r h
  unfold xf_xt_refuseUnless at h
  refine xe_seg ok 2 (G := (fun K => if a1 = (0 : Int32) then K (21, xm_i21, xm_I21, 0, 0, 4, [(0, .int a1)], [], xw_W A L S) else K (21, xm_i21, xm_I21, 0, 0, 14, [(0, .int a1)], [], xw_W A L S))) (fun K => rfl) ?_
  rcases xb_if h with ⟨hc1420, h⟩ | ⟨hc1420, h⟩
  · refine xe_pos hc1420 (xe_k ?_)
    obtain rfl := Option.some.inj h
    refine xe_seg ok 1 (G := (fun _ => some (.inr "java/lang/IllegalArgumentException", xw_W A L S))) (fun K => rfl) ?_
    exact xe_ret
  · refine xe_neg hc1420 (xe_k ?_)
    obtain rfl := Option.some.inj h
    refine xe_seg ok 1 (G := (fun _ => some (.inl none, xw_W A L S))) (fun K => rfl) ?_
    exact xe_ret
theorem xh_xt_line_0_39 {l : Launch} {g : xr_G} (ok : xr_OK xm_P) (A : Nat → Nat → Int32) (L : Nat → Nat → Int64) (S : Nat → Nat → Int32) (t_model_lines : Int32) (t_model_number : (Nat → Int32)) (t_model_order : (Nat → Int32)) : ∀ (s0 : Int32) (r : ((Int32 ⊕ String))), xf_xt_line_39 t_model_lines t_model_number t_model_order s0 = some r → xV xm_P l g (8, xm_i8, xm_I8, 1, 6, 39, [], [.int s0], xw_W (xy_a (xy_a A 16 t_model_number) 19 t_model_order) L (xy_s S 15 1 t_model_lines)) (xo_i r, xw_W (xy_a (xy_a A 16 t_model_number) 19 t_model_order) L (xy_s S 15 1 t_model_lines)) := by
  intro s0 r h
  unfold xf_xt_line_39 at h
  obtain rfl := Option.some.inj h
  refine xe_seg ok 1 (G := (fun _ => some (.inl (some (.int s0)), xw_W (xy_a (xy_a A 16 t_model_number) 19 t_model_order) L (xy_s S 15 1 t_model_lines)))) (fun K => rfl) ?_
  exact xe_ret
theorem xh_xt_line_0_9 {l : Launch} {g : xr_G} (ok : xr_OK xm_P) (A : Nat → Nat → Int32) (L : Nat → Nat → Int64) (S : Nat → Nat → Int32) (t_model_lines : Int32) (t_model_number : (Nat → Int32)) (t_model_order : (Nat → Int32)) : ∀ (v1 : Int32) (s0 : Int32) (r : ((Int32 ⊕ String))), xf_xt_line_9 t_model_lines t_model_number t_model_order v1 s0 = some r → xV xm_P l g (8, xm_i8, xm_I8, 0, 0, 9, [(0, .ref 2), (1, .int v1)], [.int s0], xw_W (xy_a (xy_a A 16 t_model_number) 19 t_model_order) L (xy_s S 15 1 t_model_lines)) (xo_i r, xw_W (xy_a (xy_a A 16 t_model_number) 19 t_model_order) L (xy_s S 15 1 t_model_lines)) := by
  intro v1 s0 r h
  unfold xf_xt_line_9 at h
  refine xe_seg ok 1 (G := (fun K => xr_back K 8 xm_i8 xm_I8 1 6 9 [(0, .ref 2), (1, .int v1)] [] 78 true (K (21, xm_i21, xm_I21, 0, 0, 0, [(0, .int s0)], [], xw_W (xy_a (xy_a A 16 t_model_number) 19 t_model_order) L (xy_s S 15 1 t_model_lines))))) (fun K => rfl) ?_
  obtain ⟨q1421, hq1421, h⟩ := Option.bind_eq_some_iff.mp h
  have heq1421 := xh_xt_refuseUnless (l := l) (g := g) ok (xy_a (xy_a A 16 t_model_number) 19 t_model_order) L (xy_s S 15 1 t_model_lines) s0 _ hq1421
  rcases xb_sum h with ⟨r1422, hr1422, h⟩ | ⟨r1422, hr1422, h⟩
  · rw [hr1422] at heq1421
    refine xe_call0 (ws' := xw_W (xy_a (xy_a A 16 t_model_number) 19 t_model_order) L (xy_s S 15 1 t_model_lines)) (by decide) heq1421 (Or.inl rfl) ?_
    refine xe_seg ok 4 (G := (fun K => xr_back K 8 xm_i8 xm_I8 1 6 17 [(0, .ref 2), (1, .int v1)] [] 78 true (K (113, xm_i113, xm_I113, 0, 0, 0, [(0, .ref 17), (1, .int v1)], [], xw_W (xy_a (xy_a A 16 t_model_number) 19 t_model_order) L (xy_s S 15 1 t_model_lines))))) (fun K => rfl) ?_
    obtain ⟨q1423, hq1423, h⟩ := Option.bind_eq_some_iff.mp h
    have heq1423 := xh_md_rowAt_15 (l := l) (g := g) ok (xy_a (xy_a A 16 t_model_number) 19 t_model_order) L (xy_s S 15 1 t_model_lines) t_model_lines t_model_order v1 _ hq1423
    refine xe_call1 (ws' := xw_W (xy_a (xy_a A 16 t_model_number) 19 t_model_order) L (xy_s S 15 1 t_model_lines)) (by decide) heq1423 (Or.inl rfl) ?_
    refine xe_seg ok 4 (G := (fun K => if q1423 = ((-1 : Int32)) then K (8, xm_i8, xm_I8, 1, 6, 26, [(0, .ref 2), (1, .int v1), (2, .int q1423)], [], xw_W (xy_a (xy_a A 16 t_model_number) 19 t_model_order) L (xy_s S 15 1 t_model_lines)) else K (8, xm_i8, xm_I8, 1, 6, 30, [(0, .ref 2), (1, .int v1), (2, .int q1423)], [], xw_W (xy_a (xy_a A 16 t_model_number) 19 t_model_order) L (xy_s S 15 1 t_model_lines)))) (fun K => rfl) ?_
    rcases xb_if h with ⟨hc1424, h⟩ | ⟨hc1424, h⟩
    · refine xe_pos hc1424 (xe_k ?_)
      refine xe_seg ok 2 (G := (fun K => K (8, xm_i8, xm_I8, 1, 6, 39, [(0, .ref 2), (1, .int v1), (2, .int q1423)], [.int ((-1 : Int32))], xw_W (xy_a (xy_a A 16 t_model_number) 19 t_model_order) L (xy_s S 15 1 t_model_lines)))) (fun K => rfl) ?_
      refine xe_k ?_
      refine xe_sub [false, false, false] (lv' := []) rfl ?_
      exact xh_xt_line_0_39 ok A L S t_model_lines t_model_number t_model_order ((-1 : Int32)) _ h
    · refine xe_neg hc1424 (xe_k ?_)
      refine xe_seg ok 5 (G := (fun K => if xr_in q1423 40 = true then K (8, xm_i8, xm_I8, 1, 6, 39, [(0, .ref 2), (1, .int v1), (2, .int q1423)], [.int (t_model_number q1423.toNatClampNeg)], xw_W (xy_a (xy_a A 16 t_model_number) 19 t_model_order) L (xy_s S 15 1 t_model_lines)) else none)) (fun K => rfl) ?_
      obtain ⟨hg1425, h⟩ := xn_if h
      refine xe_pos hg1425 (xe_k ?_)
      refine xe_sub [false, false, false] (lv' := []) rfl ?_
      exact xh_xt_line_0_39 ok A L S t_model_lines t_model_number t_model_order (t_model_number q1423.toNatClampNeg) _ h
  · rw [hr1422] at heq1421
    obtain rfl := Option.some.inj h
    exact xe_thr (E := r1422) (ws' := xw_W (xy_a (xy_a A 16 t_model_number) 19 t_model_order) L (xy_s S 15 1 t_model_lines)) heq1421 rfl rfl rfl
theorem xh_xt_line_0 {l : Launch} {g : xr_G} (ok : xr_OK xm_P) (A : Nat → Nat → Int32) (L : Nat → Nat → Int64) (S : Nat → Nat → Int32) (t_model_lines : Int32) (t_model_number : (Nat → Int32)) (t_model_order : (Nat → Int32)) : ∀ (a1 : Int32) (r : ((Int32 ⊕ String))), xf_xt_line t_model_lines t_model_number t_model_order a1 = some r → xV xm_P l g (8, xm_i8, xm_I8, 0, 0, 0, [(0, .ref 2), (1, .int a1)], [], xw_W (xy_a (xy_a A 16 t_model_number) 19 t_model_order) L (xy_s S 15 1 t_model_lines)) (xo_i r, xw_W (xy_a (xy_a A 16 t_model_number) 19 t_model_order) L (xy_s S 15 1 t_model_lines)) := by
  intro a1 r h
  unfold xf_xt_line at h
  refine xe_seg ok 2 (G := (fun K => if a1 < (0 : Int32) then K (8, xm_i8, xm_I8, 0, 0, 8, [(0, .ref 2), (1, .int a1)], [], xw_W (xy_a (xy_a A 16 t_model_number) 19 t_model_order) L (xy_s S 15 1 t_model_lines)) else K (8, xm_i8, xm_I8, 0, 0, 4, [(0, .ref 2), (1, .int a1)], [], xw_W (xy_a (xy_a A 16 t_model_number) 19 t_model_order) L (xy_s S 15 1 t_model_lines)))) (fun K => rfl) ?_
  rcases xb_if h with ⟨hc1419, h⟩ | ⟨hc1419, h⟩
  · refine xe_pos hc1419 (xe_k ?_)
    refine xe_seg ok 1 (G := (fun K => K (8, xm_i8, xm_I8, 0, 0, 9, [(0, .ref 2), (1, .int a1)], [.int ((0 : Int32))], xw_W (xy_a (xy_a A 16 t_model_number) 19 t_model_order) L (xy_s S 15 1 t_model_lines)))) (fun K => rfl) ?_
    refine xe_k ?_
    refine xe_sub [true, true] (lv' := [(0, .ref 2), (1, .int a1)]) rfl ?_
    exact xh_xt_line_0_9 ok A L S t_model_lines t_model_number t_model_order a1 ((0 : Int32)) _ h
  · refine xe_neg hc1419 (xe_k ?_)
    refine xe_seg ok 2 (G := (fun K => K (8, xm_i8, xm_I8, 0, 0, 9, [(0, .ref 2), (1, .int a1)], [.int ((1 : Int32))], xw_W (xy_a (xy_a A 16 t_model_number) 19 t_model_order) L (xy_s S 15 1 t_model_lines)))) (fun K => rfl) ?_
    refine xe_k ?_
    refine xe_sub [true, true] (lv' := [(0, .ref 2), (1, .int a1)]) rfl ?_
    exact xh_xt_line_0_9 ok A L S t_model_lines t_model_number t_model_order a1 ((1 : Int32)) _ h
theorem xh_la_line_0_77 {l : Launch} {g : xr_G} (ok : xr_OK xm_P) (A : Nat → Nat → Int32) (L : Nat → Nat → Int64) (S : Nat → Nat → Int32) (p1_model_lines : Int32) (p1_model_number : (Nat → Int32)) (p1_model_order : (Nat → Int32)) (n_p3 : Nat) : ∀ (p3 : (Nat → Int64)) (a2 : Int32) (r : (Int32 × (Nat → Int64))), xf_la_line p1_model_lines p1_model_number p1_model_order n_p3 p3 a2 = some r → xV xm_P l g (174, xm_i174, xm_I174, 0, 0, 0, [(0, .ref 2), (1, .int a2), (2, .ref 79)], [], xw_W (xy_a (xy_a A 16 p1_model_number) 19 p1_model_order) (xy_l L 77 p3) (xy_s S 15 1 p1_model_lines)) (.inl (some (.int r.1)), xw_W (xy_a (xy_a A 16 p1_model_number) 19 p1_model_order) (xy_l L 77 r.2) (xy_s S 15 1 p1_model_lines)) := by
  intro p3 a2 r h
  unfold xf_la_line at h
  refine xe_seg ok 5 (G := (fun K => xr_back K 174 xm_i174 xm_I174 1 6 4 [(0, .ref 2), (1, .int a2), (2, .ref 79)] [.int ((0 : Int32)), .ref 79] 78 true (K (8, xm_i8, xm_I8, 0, 0, 0, [(0, .ref 2), (1, .int a2)], [], xw_W (xy_a (xy_a A 16 p1_model_number) 19 p1_model_order) (xy_l L 77 p3) (xy_s S 15 1 p1_model_lines))))) (fun K => rfl) ?_
  obtain ⟨q1426, hq1426, h⟩ := Option.bind_eq_some_iff.mp h
  have heq1426 := xh_xt_line_0 (l := l) (g := g) ok (xy_a (xy_a A 16 p1_model_number) 19 p1_model_order) (xy_l L 77 p3) (xy_s S 15 1 p1_model_lines) p1_model_lines p1_model_number p1_model_order a2 _ hq1426
  rcases xb_sum h with ⟨r1427, hr1427, h⟩ | ⟨r1427, hr1427, h⟩
  · rw [hr1427] at heq1426
    refine xe_call1 (ws' := xw_W (xy_a (xy_a A 16 p1_model_number) 19 p1_model_order) (xy_l L 77 p3) (xy_s S 15 1 p1_model_lines)) (by decide) heq1426 (Or.inl rfl) ?_
    refine xe_seg ok 2 (G := (fun K => if xr_in ((0 : Int32)) 1 = true then K (174, xm_i174, xm_I174, 1, 6, 9, [(0, .ref 2), (1, .int a2), (2, .ref 79)], [], xw_W (xy_a (xy_a A 16 p1_model_number) 19 p1_model_order) (xy_l L 77 (vp_updL p3 ((0 : Int32)).toNatClampNeg r1427.toInt64)) (xy_s S 15 1 p1_model_lines)) else none)) (fun K => rfl) ?_
    obtain ⟨hg1428, h⟩ := xn_if h
    refine xe_pos hg1428 (xe_k ?_)
    obtain rfl := Option.some.inj h
    refine xe_seg ok 3 (G := (fun _ => some (.inl (some (.int ((0 : Int32)))), xw_W (xy_a (xy_a A 16 p1_model_number) 19 p1_model_order) (xy_l L 77 (vp_updL p3 ((0 : Int32)).toNatClampNeg r1427.toInt64)) (xy_s S 15 1 p1_model_lines)))) (fun K => rfl) ?_
    exact xe_ret
  · rw [hr1427] at heq1426
    rcases xb_if h with ⟨hc1429, h⟩ | ⟨hc1429, h⟩
    · subst hc1429
      refine xe_catch (ws' := xw_W (xy_a (xy_a A 16 p1_model_number) 19 p1_model_order) (xy_l L 77 p3) (xy_s S 15 1 p1_model_lines)) (by decide) heq1426 (q' := (174, xm_i174, xm_I174, 1, 6, 13, [(0, .ref 2), (1, .int a2), (2, .ref 79)], [], xw_W (xy_a (xy_a A 16 p1_model_number) 19 p1_model_order) (xy_l L 77 p3) (xy_s S 15 1 p1_model_lines))) (fun K => rfl) ?_
      obtain rfl := Option.some.inj h
      refine xe_seg ok 2 (G := (fun _ => some (.inl (some (.int ((1 : Int32)))), xw_W (xy_a (xy_a A 16 p1_model_number) 19 p1_model_order) (xy_l L 77 p3) (xy_s S 15 1 p1_model_lines)))) (fun K => rfl) ?_
      exact xe_ret
    · cases h
theorem xh_xt_rowOrRefuse_0_19 {l : Launch} {g : xr_G} (ok : xr_OK xm_P) (A : Nat → Nat → Int32) (L : Nat → Nat → Int64) (S : Nat → Nat → Int32) (t_model_lines : Int32) (t_model_number : (Nat → Int32)) (t_model_order : (Nat → Int32)) (n : Nat) : ∀ (v2 : Int32) (s0 : Int32) (r : ((Int32 ⊕ String))), xf_xt_rowOrRefuse_19 t_model_lines t_model_number t_model_order n v2 s0 = some r → xV xm_P l g (22, xm_i22, xm_I22, 0, 0, 19, [(2, .int v2)], [.int s0], xw_W (xy_a (xy_a A 16 t_model_number) 19 t_model_order) L (xy_s S 15 1 t_model_lines)) (xo_i r, xw_W (xy_a (xy_a A 16 t_model_number) 19 t_model_order) L (xy_s S 15 1 t_model_lines)) := by
  intro v2 s0 r h
  unfold xf_xt_rowOrRefuse_19 at h
  refine xe_seg ok 1 (G := (fun K => xr_back K 22 xm_i22 xm_I22 1 6 19 [(2, .int v2)] [] 78 true (K (21, xm_i21, xm_I21, 0, 0, 0, [(0, .int s0)], [], xw_W (xy_a (xy_a A 16 t_model_number) 19 t_model_order) L (xy_s S 15 1 t_model_lines))))) (fun K => rfl) ?_
  obtain ⟨q1432, hq1432, h⟩ := Option.bind_eq_some_iff.mp h
  have heq1432 := xh_xt_refuseUnless (l := l) (g := g) ok (xy_a (xy_a A 16 t_model_number) 19 t_model_order) L (xy_s S 15 1 t_model_lines) s0 _ hq1432
  rcases xb_sum h with ⟨r1433, hr1433, h⟩ | ⟨r1433, hr1433, h⟩
  · rw [hr1433] at heq1432
    refine xe_call0 (ws' := xw_W (xy_a (xy_a A 16 t_model_number) 19 t_model_order) L (xy_s S 15 1 t_model_lines)) (by decide) heq1432 (Or.inl rfl) ?_
    obtain rfl := Option.some.inj h
    refine xe_seg ok 2 (G := (fun _ => some (.inl (some (.int v2)), xw_W (xy_a (xy_a A 16 t_model_number) 19 t_model_order) L (xy_s S 15 1 t_model_lines)))) (fun K => rfl) ?_
    exact xe_ret
  · rw [hr1433] at heq1432
    obtain rfl := Option.some.inj h
    exact xe_thr (E := r1433) (ws' := xw_W (xy_a (xy_a A 16 t_model_number) 19 t_model_order) L (xy_s S 15 1 t_model_lines)) heq1432 rfl rfl rfl
theorem xh_xt_rowOrRefuse_0 {l : Launch} {g : xr_G} (ok : xr_OK xm_P) (A : Nat → Nat → Int32) (L : Nat → Nat → Int64) (S : Nat → Nat → Int32) (t_model_lines : Int32) (t_model_number : (Nat → Int32)) (t_model_order : (Nat → Int32)) (n : Nat) : ∀ (a1 : Int32) (r : ((Int32 ⊕ String))), xf_xt_rowOrRefuse t_model_lines t_model_number t_model_order n a1 = some r → xV xm_P l g (22, xm_i22, xm_I22, 0, 0, 0, [(0, .ref 2), (1, .int a1)], [], xw_W (xy_a (xy_a A 16 t_model_number) 19 t_model_order) L (xy_s S 15 1 t_model_lines)) (xo_i r, xw_W (xy_a (xy_a A 16 t_model_number) 19 t_model_order) L (xy_s S 15 1 t_model_lines)) := by
  intro a1 r h
  unfold xf_xt_rowOrRefuse at h
  refine xe_seg ok 4 (G := (fun K => xr_back K 22 xm_i22 xm_I22 0 0 5 [(0, .ref 2), (1, .int a1)] [] 78 true (K (114, xm_i114, xm_I114, 0, 0, 0, [(0, .ref 17), (1, .int a1)], [], xw_W (xy_a (xy_a A 16 t_model_number) 19 t_model_order) L (xy_s S 15 1 t_model_lines))))) (fun K => rfl) ?_
  obtain ⟨q1430, hq1430, h⟩ := Option.bind_eq_some_iff.mp h
  have heq1430 := xh_md_rowOf_15 (l := l) (g := g) ok (xy_a (xy_a A 16 t_model_number) 19 t_model_order) L (xy_s S 15 1 t_model_lines) t_model_lines t_model_number t_model_order n a1 _ hq1430
  refine xe_call1 (ws' := xw_W (xy_a (xy_a A 16 t_model_number) 19 t_model_order) L (xy_s S 15 1 t_model_lines)) (by decide) heq1430 (Or.inl rfl) ?_
  refine xe_seg ok 4 (G := (fun K => if q1430 = ((-1 : Int32)) then K (22, xm_i22, xm_I22, 0, 0, 18, [(0, .ref 2), (1, .int a1), (2, .int q1430)], [], xw_W (xy_a (xy_a A 16 t_model_number) 19 t_model_order) L (xy_s S 15 1 t_model_lines)) else K (22, xm_i22, xm_I22, 0, 0, 14, [(0, .ref 2), (1, .int a1), (2, .int q1430)], [], xw_W (xy_a (xy_a A 16 t_model_number) 19 t_model_order) L (xy_s S 15 1 t_model_lines)))) (fun K => rfl) ?_
  rcases xb_if h with ⟨hc1431, h⟩ | ⟨hc1431, h⟩
  · refine xe_pos hc1431 (xe_k ?_)
    refine xe_seg ok 1 (G := (fun K => K (22, xm_i22, xm_I22, 0, 0, 19, [(0, .ref 2), (1, .int a1), (2, .int q1430)], [.int ((0 : Int32))], xw_W (xy_a (xy_a A 16 t_model_number) 19 t_model_order) L (xy_s S 15 1 t_model_lines)))) (fun K => rfl) ?_
    refine xe_k ?_
    refine xe_sub [false, false, true] (lv' := [(2, .int q1430)]) rfl ?_
    exact xh_xt_rowOrRefuse_0_19 ok A L S t_model_lines t_model_number t_model_order n q1430 ((0 : Int32)) _ h
  · refine xe_neg hc1431 (xe_k ?_)
    refine xe_seg ok 2 (G := (fun K => K (22, xm_i22, xm_I22, 0, 0, 19, [(0, .ref 2), (1, .int a1), (2, .int q1430)], [.int ((1 : Int32))], xw_W (xy_a (xy_a A 16 t_model_number) 19 t_model_order) L (xy_s S 15 1 t_model_lines)))) (fun K => rfl) ?_
    refine xe_k ?_
    refine xe_sub [false, false, true] (lv' := [(2, .int q1430)]) rfl ?_
    exact xh_xt_rowOrRefuse_0_19 ok A L S t_model_lines t_model_number t_model_order n q1430 ((1 : Int32)) _ h
theorem xh_kd_find_5_2 {l : Launch} {g : xr_G} (ok : xr_OK xm_P) (A : Nat → Nat → Int32) (L : Nat → Nat → Int64) (S : Nat → Nat → Int32) (t_name : (Nat → Int64)) (t_total : Int32) (n : Nat) : ∀ (N : Nat) (v1 : Int64) (v3 : Int32) (r : (Int32)), xf_kd_find_2 t_name t_total n N v1 v3 = some r → xV xm_P l g (103, xm_i103, xm_I103, 0, 0, 2, [(0, .ref 7), (1, .long v1), (3, .int v3)], [], xw_W A (xy_l L 6 t_name) (xy_s S 5 0 t_total)) (.inl (some (.int r)), xw_W A (xy_l L 6 t_name) (xy_s S 5 0 t_total)) := by
  intro N
  induction N with
  | zero => intro v1 v3 r h; cases h
  | succ N hk2 =>
    intro v1 v3 r h
    refine xe_seg ok 4 (G := (fun K => if v3 < t_total then K (103, xm_i103, xm_I103, 0, 0, 10, [(0, .ref 7), (1, .long v1), (3, .int v3)], [], xw_W A (xy_l L 6 t_name) (xy_s S 5 0 t_total)) else K (103, xm_i103, xm_I103, 0, 0, 29, [(0, .ref 7), (1, .long v1), (3, .int v3)], [], xw_W A (xy_l L 6 t_name) (xy_s S 5 0 t_total)))) (fun K => rfl) ?_
    rcases xb_if h with ⟨hc1441, h⟩ | ⟨hc1441, h⟩
    · refine xe_pos hc1441 (xe_k ?_)
      refine xe_seg ok 4 (G := (fun K => if xr_in v3 12 = true then K (103, xm_i103, xm_I103, 0, 0, 16, [(0, .ref 7), (1, .long v1), (3, .int v3)], [.long (t_name v3.toNatClampNeg)], xw_W A (xy_l L 6 t_name) (xy_s S 5 0 t_total)) else none)) (fun K => rfl) ?_
      obtain ⟨hg1442, h⟩ := xn_if h
      refine xe_pos hg1442 (xe_k ?_)
      refine xe_seg ok 3 (G := (fun K => if (lg_cmp (t_name v3.toNatClampNeg) v1) = (0 : Int32) then K (103, xm_i103, xm_I103, 0, 0, 21, [(0, .ref 7), (1, .long v1), (3, .int v3)], [], xw_W A (xy_l L 6 t_name) (xy_s S 5 0 t_total)) else K (103, xm_i103, xm_I103, 0, 0, 23, [(0, .ref 7), (1, .long v1), (3, .int v3)], [], xw_W A (xy_l L 6 t_name) (xy_s S 5 0 t_total)))) (fun K => rfl) ?_
      rcases xb_if h with ⟨hc1443, h⟩ | ⟨hc1443, h⟩
      · refine xe_pos hc1443 (xe_k ?_)
        obtain rfl := Option.some.inj h
        refine xe_seg ok 2 (G := (fun _ => some (.inl (some (.int v3)), xw_W A (xy_l L 6 t_name) (xy_s S 5 0 t_total)))) (fun K => rfl) ?_
        exact xe_ret
      · refine xe_neg hc1443 (xe_k ?_)
        refine xe_seg ok 2 (G := (fun K => K (103, xm_i103, xm_I103, 0, 0, 2, [(0, .ref 7), (1, .long v1), (3, .int (v3 + (1 : Int32)))], [], xw_W A (xy_l L 6 t_name) (xy_s S 5 0 t_total)))) (fun K => rfl) ?_
        refine xe_k ?_
        refine xe_sub [true, true, true] (lv' := [(0, .ref 7), (1, .long v1), (3, .int (v3 + (1 : Int32)))]) rfl ?_
        exact hk2 v1 (v3 + (1 : Int32)) _ h
    · refine xe_neg hc1441 (xe_k ?_)
      obtain rfl := Option.some.inj h
      refine xe_seg ok 2 (G := (fun _ => some (.inl (some (.int ((-1 : Int32)))), xw_W A (xy_l L 6 t_name) (xy_s S 5 0 t_total)))) (fun K => rfl) ?_
      exact xe_ret
theorem xh_kd_find_5 {l : Launch} {g : xr_G} (ok : xr_OK xm_P) (A : Nat → Nat → Int32) (L : Nat → Nat → Int64) (S : Nat → Nat → Int32) (t_name : (Nat → Int64)) (t_total : Int32) (n : Nat) : ∀ (a1 : Int64) (r : (Int32)), xf_kd_find t_name t_total n a1 = some r → xV xm_P l g (103, xm_i103, xm_I103, 0, 0, 0, [(0, .ref 7), (1, .long a1)], [], xw_W A (xy_l L 6 t_name) (xy_s S 5 0 t_total)) (.inl (some (.int r)), xw_W A (xy_l L 6 t_name) (xy_s S 5 0 t_total)) := by
  intro a1 r h
  unfold xf_kd_find at h
  refine xe_seg ok 2 (G := (fun K => K (103, xm_i103, xm_I103, 0, 0, 2, [(0, .ref 7), (1, .long a1), (3, .int ((0 : Int32)))], [], xw_W A (xy_l L 6 t_name) (xy_s S 5 0 t_total)))) (fun K => rfl) ?_
  refine xe_k ?_
  refine xe_sub [true, true, true] (lv' := [(0, .ref 7), (1, .long a1), (3, .int ((0 : Int32)))]) rfl ?_
  exact xh_kd_find_5_2 ok A L S t_name t_total n n a1 ((0 : Int32)) _ h
theorem xh_md_referencesOf_15_60 {l : Launch} {g : xr_G} (ok : xr_OK xm_P) (A : Nat → Nat → Int32) (L : Nat → Nat → Int64) (S : Nat → Nat → Int32) (t_size : (Nat → Int32)) (t_sort : (Nat → Int32)) (t_value : (Nat → Int32)) {k4 : Int32 → Int32 → Int32 → Option (Int32)} (hk4 : ∀ (v1 : Int32) (v2 : Int32) (v3 : Int32) (r : (Int32)), k4 v1 v2 v3 = some r → xV xm_P l g (121, xm_i121, xm_I121, 0, 0, 4, [(0, .ref 17), (1, .int v1), (2, .int v2), (3, .int v3)], [], xw_W (xy_a (xy_a (xy_a A 18 t_size) 20 t_sort) 21 t_value) L S) (.inl (some (.int r)), xw_W (xy_a (xy_a (xy_a A 18 t_size) 20 t_sort) 21 t_value) L S)) (n : Nat) : ∀ (v1 : Int32) (v2 : Int32) (v3 : Int32) (r : (Int32)), xf_md_referencesOf_60 t_size t_sort t_value k4 n v1 v2 v3 = some r → xV xm_P l g (121, xm_i121, xm_I121, 0, 0, 60, [(0, .ref 17), (1, .int v1), (2, .int v2), (3, .int v3)], [], xw_W (xy_a (xy_a (xy_a A 18 t_size) 20 t_sort) 21 t_value) L S) (.inl (some (.int r)), xw_W (xy_a (xy_a (xy_a A 18 t_size) 20 t_sort) 21 t_value) L S) := by
  intro v1 v2 v3 r h
  unfold xf_md_referencesOf_60 at h
  refine xe_seg ok 2 (G := (fun K => K (121, xm_i121, xm_I121, 0, 0, 4, [(0, .ref 17), (1, .int v1), (2, .int v2), (3, .int (v3 + (1 : Int32)))], [], xw_W (xy_a (xy_a (xy_a A 18 t_size) 20 t_sort) 21 t_value) L S))) (fun K => rfl) ?_
  refine xe_k ?_
  refine xe_sub [true, true, true, true] (lv' := [(0, .ref 17), (1, .int v1), (2, .int v2), (3, .int (v3 + (1 : Int32)))]) rfl ?_
  exact hk4 v1 v2 (v3 + (1 : Int32)) _ h
theorem xh_md_referencesOf_15_4 {l : Launch} {g : xr_G} (ok : xr_OK xm_P) (A : Nat → Nat → Int32) (L : Nat → Nat → Int64) (S : Nat → Nat → Int32) (t_size : (Nat → Int32)) (t_sort : (Nat → Int32)) (t_value : (Nat → Int32)) (n : Nat) : ∀ (N : Nat) (v1 : Int32) (v2 : Int32) (v3 : Int32) (r : (Int32)), xf_md_referencesOf_4 t_size t_sort t_value n N v1 v2 v3 = some r → xV xm_P l g (121, xm_i121, xm_I121, 0, 0, 4, [(0, .ref 17), (1, .int v1), (2, .int v2), (3, .int v3)], [], xw_W (xy_a (xy_a (xy_a A 18 t_size) 20 t_sort) 21 t_value) L S) (.inl (some (.int r)), xw_W (xy_a (xy_a (xy_a A 18 t_size) 20 t_sort) 21 t_value) L S) := by
  intro N
  induction N with
  | zero => intro v1 v2 v3 r h; cases h
  | succ N hk4 =>
    intro v1 v2 v3 r h
    refine xe_seg ok 5 (G := (fun K => if xr_in v1 40 = true then K (121, xm_i121, xm_I121, 0, 0, 11, [(0, .ref 17), (1, .int v1), (2, .int v2), (3, .int v3)], [.int (t_size v1.toNatClampNeg), .int v3], xw_W (xy_a (xy_a (xy_a A 18 t_size) 20 t_sort) 21 t_value) L S) else none)) (fun K => rfl) ?_
    obtain ⟨hg1448, h⟩ := xn_if h
    refine xe_pos hg1448 (xe_k ?_)
    refine xe_seg ok 1 (G := (fun K => if v3 < (t_size v1.toNatClampNeg) then K (121, xm_i121, xm_I121, 0, 0, 14, [(0, .ref 17), (1, .int v1), (2, .int v2), (3, .int v3)], [], xw_W (xy_a (xy_a (xy_a A 18 t_size) 20 t_sort) 21 t_value) L S) else K (121, xm_i121, xm_I121, 0, 0, 66, [(0, .ref 17), (1, .int v1), (2, .int v2), (3, .int v3)], [], xw_W (xy_a (xy_a (xy_a A 18 t_size) 20 t_sort) 21 t_value) L S))) (fun K => rfl) ?_
    rcases xb_if h with ⟨hc1449, h⟩ | ⟨hc1449, h⟩
    · refine xe_pos hc1449 (xe_k ?_)
      refine xe_seg ok 10 (G := (fun K => if xr_in ((v1 * ((8 : Int32))) + v3) 320 = true then K (121, xm_i121, xm_I121, 0, 0, 29, [(0, .ref 17), (1, .int v1), (2, .int v2), (3, .int v3), (4, .int ((v1 * ((8 : Int32))) + v3))], [.int (t_sort ((v1 * ((8 : Int32))) + v3).toNatClampNeg)], xw_W (xy_a (xy_a (xy_a A 18 t_size) 20 t_sort) 21 t_value) L S) else none)) (fun K => rfl) ?_
      obtain ⟨hg1450, h⟩ := xn_if h
      refine xe_pos hg1450 (xe_k ?_)
      refine xe_seg ok 2 (G := (fun K => if (t_sort ((v1 * ((8 : Int32))) + v3).toNatClampNeg) = ((2 : Int32)) then K (121, xm_i121, xm_I121, 0, 0, 33, [(0, .ref 17), (1, .int v1), (2, .int v2), (3, .int v3), (4, .int ((v1 * ((8 : Int32))) + v3))], [], xw_W (xy_a (xy_a (xy_a A 18 t_size) 20 t_sort) 21 t_value) L S) else K (121, xm_i121, xm_I121, 0, 0, 39, [(0, .ref 17), (1, .int v1), (2, .int v2), (3, .int v3), (4, .int ((v1 * ((8 : Int32))) + v3))], [], xw_W (xy_a (xy_a (xy_a A 18 t_size) 20 t_sort) 21 t_value) L S))) (fun K => rfl) ?_
      rcases xb_if h with ⟨hc1451, h⟩ | ⟨hc1451, h⟩
      · refine xe_pos hc1451 (xe_k ?_)
        refine xe_seg ok 2 (G := (fun K => K (121, xm_i121, xm_I121, 0, 0, 60, [(0, .ref 17), (1, .int v1), (2, .int (v2 + (1 : Int32))), (3, .int v3), (4, .int ((v1 * ((8 : Int32))) + v3))], [], xw_W (xy_a (xy_a (xy_a A 18 t_size) 20 t_sort) 21 t_value) L S))) (fun K => rfl) ?_
        refine xe_k ?_
        refine xe_sub [true, true, true, true, false] (lv' := [(0, .ref 17), (1, .int v1), (2, .int (v2 + (1 : Int32))), (3, .int v3)]) rfl ?_
        exact xh_md_referencesOf_15_60 ok A L S t_size t_sort t_value hk4 n v1 (v2 + (1 : Int32)) v3 _ h
      · refine xe_neg hc1451 (xe_k ?_)
        refine xe_seg ok 4 (G := (fun K => if xr_in ((v1 * ((8 : Int32))) + v3) 320 = true then K (121, xm_i121, xm_I121, 0, 0, 46, [(0, .ref 17), (1, .int v1), (2, .int v2), (3, .int v3), (4, .int ((v1 * ((8 : Int32))) + v3))], [.int (t_sort ((v1 * ((8 : Int32))) + v3).toNatClampNeg)], xw_W (xy_a (xy_a (xy_a A 18 t_size) 20 t_sort) 21 t_value) L S) else none)) (fun K => rfl) ?_
        obtain ⟨hg1452, h⟩ := xn_if h
        refine xe_pos hg1452 (xe_k ?_)
        refine xe_seg ok 2 (G := (fun K => if (t_sort ((v1 * ((8 : Int32))) + v3).toNatClampNeg) = ((4 : Int32)) then K (121, xm_i121, xm_I121, 0, 0, 50, [(0, .ref 17), (1, .int v1), (2, .int v2), (3, .int v3), (4, .int ((v1 * ((8 : Int32))) + v3))], [], xw_W (xy_a (xy_a (xy_a A 18 t_size) 20 t_sort) 21 t_value) L S) else K (121, xm_i121, xm_I121, 0, 0, 60, [(0, .ref 17), (1, .int v1), (2, .int v2), (3, .int v3), (4, .int ((v1 * ((8 : Int32))) + v3))], [], xw_W (xy_a (xy_a (xy_a A 18 t_size) 20 t_sort) 21 t_value) L S))) (fun K => rfl) ?_
        rcases xb_if h with ⟨hc1453, h⟩ | ⟨hc1453, h⟩
        · refine xe_pos hc1453 (xe_k ?_)
          refine xe_seg ok 5 (G := (fun K => if xr_in ((v1 * ((8 : Int32))) + v3) 320 = true then K (121, xm_i121, xm_I121, 0, 0, 58, [(0, .ref 17), (1, .int v1), (2, .int v2), (3, .int v3), (4, .int ((v1 * ((8 : Int32))) + v3))], [.int (t_value ((v1 * ((8 : Int32))) + v3).toNatClampNeg), .int v2], xw_W (xy_a (xy_a (xy_a A 18 t_size) 20 t_sort) 21 t_value) L S) else none)) (fun K => rfl) ?_
          obtain ⟨hg1454, h⟩ := xn_if h
          refine xe_pos hg1454 (xe_k ?_)
          refine xe_seg ok 2 (G := (fun K => K (121, xm_i121, xm_I121, 0, 0, 60, [(0, .ref 17), (1, .int v1), (2, .int (v2 + (t_value ((v1 * ((8 : Int32))) + v3).toNatClampNeg))), (3, .int v3), (4, .int ((v1 * ((8 : Int32))) + v3))], [], xw_W (xy_a (xy_a (xy_a A 18 t_size) 20 t_sort) 21 t_value) L S))) (fun K => rfl) ?_
          refine xe_k ?_
          refine xe_sub [true, true, true, true, false] (lv' := [(0, .ref 17), (1, .int v1), (2, .int (v2 + (t_value ((v1 * ((8 : Int32))) + v3).toNatClampNeg))), (3, .int v3)]) rfl ?_
          exact xh_md_referencesOf_15_60 ok A L S t_size t_sort t_value hk4 n v1 (v2 + (t_value ((v1 * ((8 : Int32))) + v3).toNatClampNeg)) v3 _ h
        · refine xe_neg hc1453 (xe_k ?_)
          refine xe_sub [true, true, true, true, false] (lv' := [(0, .ref 17), (1, .int v1), (2, .int v2), (3, .int v3)]) rfl ?_
          exact xh_md_referencesOf_15_60 ok A L S t_size t_sort t_value hk4 n v1 v2 v3 _ h
    · refine xe_neg hc1449 (xe_k ?_)
      obtain rfl := Option.some.inj h
      refine xe_seg ok 2 (G := (fun _ => some (.inl (some (.int v2)), xw_W (xy_a (xy_a (xy_a A 18 t_size) 20 t_sort) 21 t_value) L S))) (fun K => rfl) ?_
      exact xe_ret
theorem xh_md_referencesOf_15 {l : Launch} {g : xr_G} (ok : xr_OK xm_P) (A : Nat → Nat → Int32) (L : Nat → Nat → Int64) (S : Nat → Nat → Int32) (t_size : (Nat → Int32)) (t_sort : (Nat → Int32)) (t_value : (Nat → Int32)) (n : Nat) : ∀ (a1 : Int32) (r : (Int32)), xf_md_referencesOf t_size t_sort t_value n a1 = some r → xV xm_P l g (121, xm_i121, xm_I121, 0, 0, 0, [(0, .ref 17), (1, .int a1)], [], xw_W (xy_a (xy_a (xy_a A 18 t_size) 20 t_sort) 21 t_value) L S) (.inl (some (.int r)), xw_W (xy_a (xy_a (xy_a A 18 t_size) 20 t_sort) 21 t_value) L S) := by
  intro a1 r h
  unfold xf_md_referencesOf at h
  refine xe_seg ok 4 (G := (fun K => K (121, xm_i121, xm_I121, 0, 0, 4, [(0, .ref 17), (1, .int a1), (2, .int ((0 : Int32))), (3, .int ((0 : Int32)))], [], xw_W (xy_a (xy_a (xy_a A 18 t_size) 20 t_sort) 21 t_value) L S))) (fun K => rfl) ?_
  refine xe_k ?_
  refine xe_sub [true, true, true, true] (lv' := [(0, .ref 17), (1, .int a1), (2, .int ((0 : Int32))), (3, .int ((0 : Int32)))]) rfl ?_
  exact xh_md_referencesOf_15_4 ok A L S t_size t_sort t_value n n a1 ((0 : Int32)) ((0 : Int32)) _ h
theorem xh_xt_told_0_84 {l : Launch} {g : xr_G} (ok : xr_OK xm_P) (A : Nat → Nat → Int32) (L : Nat → Nat → Int64) (S : Nat → Nat → Int32) (t_graph_depth : (Nat → Int32)) (t_kinds_name : (Nat → Int64)) (t_kinds_total : Int32) (t_model_lines : Int32) (t_model_name : (Nat → Int64)) (t_model_number : (Nat → Int32)) (t_model_order : (Nat → Int32)) (t_model_size : (Nat → Int32)) (t_model_sort : (Nat → Int32)) (t_model_value : (Nat → Int32)) (n : Nat) : ∀ (s0 : Int32) (r : ((Int32 ⊕ String))), xf_xt_told_84 t_graph_depth t_kinds_name t_kinds_total t_model_lines t_model_name t_model_number t_model_order t_model_size t_model_sort t_model_value n s0 = some r → xV xm_P l g (9, xm_i9, xm_I9, 2, 12, 84, [], [.int s0], xw_W (xy_a (xy_a (xy_a (xy_a (xy_a (xy_a A 45 t_graph_depth) 16 t_model_number) 19 t_model_order) 18 t_model_size) 20 t_model_sort) 21 t_model_value) (xy_l (xy_l L 6 t_kinds_name) 17 t_model_name) (xy_s (xy_s S 5 0 t_kinds_total) 15 1 t_model_lines)) (xo_i r, xw_W (xy_a (xy_a (xy_a (xy_a (xy_a (xy_a A 45 t_graph_depth) 16 t_model_number) 19 t_model_order) 18 t_model_size) 20 t_model_sort) 21 t_model_value) (xy_l (xy_l L 6 t_kinds_name) 17 t_model_name) (xy_s (xy_s S 5 0 t_kinds_total) 15 1 t_model_lines)) := by
  intro s0 r h
  unfold xf_xt_told_84 at h
  obtain rfl := Option.some.inj h
  refine xe_seg ok 1 (G := (fun _ => some (.inl (some (.int s0)), xw_W (xy_a (xy_a (xy_a (xy_a (xy_a (xy_a A 45 t_graph_depth) 16 t_model_number) 19 t_model_order) 18 t_model_size) 20 t_model_sort) 21 t_model_value) (xy_l (xy_l L 6 t_kinds_name) 17 t_model_name) (xy_s (xy_s S 5 0 t_kinds_total) 15 1 t_model_lines)))) (fun K => rfl) ?_
  exact xe_ret
theorem xh_xt_told_0_20 {l : Launch} {g : xr_G} (ok : xr_OK xm_P) (A : Nat → Nat → Int32) (L : Nat → Nat → Int64) (S : Nat → Nat → Int32) (t_graph_depth : (Nat → Int32)) (t_kinds_name : (Nat → Int64)) (t_kinds_total : Int32) (t_model_lines : Int32) (t_model_name : (Nat → Int64)) (t_model_number : (Nat → Int32)) (t_model_order : (Nat → Int32)) (t_model_size : (Nat → Int32)) (t_model_sort : (Nat → Int32)) (t_model_value : (Nat → Int32)) (n : Nat) : ∀ (v2 : Int32) (v3 : Int32) (s0 : Int32) (r : ((Int32 ⊕ String))), xf_xt_told_20 t_graph_depth t_kinds_name t_kinds_total t_model_lines t_model_name t_model_number t_model_order t_model_size t_model_sort t_model_value n v2 v3 s0 = some r → xV xm_P l g (9, xm_i9, xm_I9, 1, 6, 20, [(0, .ref 2), (2, .int v2), (3, .int v3)], [.int s0], xw_W (xy_a (xy_a (xy_a (xy_a (xy_a (xy_a A 45 t_graph_depth) 16 t_model_number) 19 t_model_order) 18 t_model_size) 20 t_model_sort) 21 t_model_value) (xy_l (xy_l L 6 t_kinds_name) 17 t_model_name) (xy_s (xy_s S 5 0 t_kinds_total) 15 1 t_model_lines)) (xo_i r, xw_W (xy_a (xy_a (xy_a (xy_a (xy_a (xy_a A 45 t_graph_depth) 16 t_model_number) 19 t_model_order) 18 t_model_size) 20 t_model_sort) 21 t_model_value) (xy_l (xy_l L 6 t_kinds_name) 17 t_model_name) (xy_s (xy_s S 5 0 t_kinds_total) 15 1 t_model_lines)) := by
  intro v2 v3 s0 r h
  unfold xf_xt_told_20 at h
  refine xe_seg ok 1 (G := (fun K => xr_back K 9 xm_i9 xm_I9 2 12 20 [(0, .ref 2), (2, .int v2), (3, .int v3)] [] 78 true (K (21, xm_i21, xm_I21, 0, 0, 0, [(0, .int s0)], [], xw_W (xy_a (xy_a (xy_a (xy_a (xy_a (xy_a A 45 t_graph_depth) 16 t_model_number) 19 t_model_order) 18 t_model_size) 20 t_model_sort) 21 t_model_value) (xy_l (xy_l L 6 t_kinds_name) 17 t_model_name) (xy_s (xy_s S 5 0 t_kinds_total) 15 1 t_model_lines))))) (fun K => rfl) ?_
  obtain ⟨q1437, hq1437, h⟩ := Option.bind_eq_some_iff.mp h
  have heq1437 := xh_xt_refuseUnless (l := l) (g := g) ok (xy_a (xy_a (xy_a (xy_a (xy_a (xy_a A 45 t_graph_depth) 16 t_model_number) 19 t_model_order) 18 t_model_size) 20 t_model_sort) 21 t_model_value) (xy_l (xy_l L 6 t_kinds_name) 17 t_model_name) (xy_s (xy_s S 5 0 t_kinds_total) 15 1 t_model_lines) s0 _ hq1437
  rcases xb_sum h with ⟨r1438, hr1438, h⟩ | ⟨r1438, hr1438, h⟩
  · rw [hr1438] at heq1437
    refine xe_call0 (ws' := xw_W (xy_a (xy_a (xy_a (xy_a (xy_a (xy_a A 45 t_graph_depth) 16 t_model_number) 19 t_model_order) 18 t_model_size) 20 t_model_sort) 21 t_model_value) (xy_l (xy_l L 6 t_kinds_name) 17 t_model_name) (xy_s (xy_s S 5 0 t_kinds_total) 15 1 t_model_lines)) (by decide) heq1437 (Or.inl rfl) ?_
    refine xe_seg ok 2 (G := (fun K => if v2 = (0 : Int32) then K (9, xm_i9, xm_I9, 2, 12, 27, [(0, .ref 2), (2, .int v2), (3, .int v3)], [], xw_W (xy_a (xy_a (xy_a (xy_a (xy_a (xy_a A 45 t_graph_depth) 16 t_model_number) 19 t_model_order) 18 t_model_size) 20 t_model_sort) 21 t_model_value) (xy_l (xy_l L 6 t_kinds_name) 17 t_model_name) (xy_s (xy_s S 5 0 t_kinds_total) 15 1 t_model_lines)) else K (9, xm_i9, xm_I9, 2, 12, 44, [(0, .ref 2), (2, .int v2), (3, .int v3)], [], xw_W (xy_a (xy_a (xy_a (xy_a (xy_a (xy_a A 45 t_graph_depth) 16 t_model_number) 19 t_model_order) 18 t_model_size) 20 t_model_sort) 21 t_model_value) (xy_l (xy_l L 6 t_kinds_name) 17 t_model_name) (xy_s (xy_s S 5 0 t_kinds_total) 15 1 t_model_lines)))) (fun K => rfl) ?_
    rcases xb_if h with ⟨hc1439, h⟩ | ⟨hc1439, h⟩
    · refine xe_pos hc1439 (xe_k ?_)
      refine xe_seg ok 7 (G := (fun K => if xr_in v3 40 = true then K (9, xm_i9, xm_I9, 2, 12, 40, [(0, .ref 2), (2, .int v2), (3, .int v3)], [.long (t_model_name v3.toNatClampNeg), .ref 7], xw_W (xy_a (xy_a (xy_a (xy_a (xy_a (xy_a A 45 t_graph_depth) 16 t_model_number) 19 t_model_order) 18 t_model_size) 20 t_model_sort) 21 t_model_value) (xy_l (xy_l L 6 t_kinds_name) 17 t_model_name) (xy_s (xy_s S 5 0 t_kinds_total) 15 1 t_model_lines)) else none)) (fun K => rfl) ?_
      obtain ⟨hg1440, h⟩ := xn_if h
      refine xe_pos hg1440 (xe_k ?_)
      refine xe_seg ok 1 (G := (fun K => xr_back K 9 xm_i9 xm_I9 2 12 40 [(0, .ref 2), (2, .int v2), (3, .int v3)] [] 78 true (K (103, xm_i103, xm_I103, 0, 0, 0, [(0, .ref 7), (1, .long (t_model_name v3.toNatClampNeg))], [], xw_W (xy_a (xy_a (xy_a (xy_a (xy_a (xy_a A 45 t_graph_depth) 16 t_model_number) 19 t_model_order) 18 t_model_size) 20 t_model_sort) 21 t_model_value) (xy_l (xy_l L 6 t_kinds_name) 17 t_model_name) (xy_s (xy_s S 5 0 t_kinds_total) 15 1 t_model_lines))))) (fun K => rfl) ?_
      obtain ⟨q1444, hq1444, h⟩ := Option.bind_eq_some_iff.mp h
      have heq1444 := xh_kd_find_5 (l := l) (g := g) ok (xy_a (xy_a (xy_a (xy_a (xy_a (xy_a A 45 t_graph_depth) 16 t_model_number) 19 t_model_order) 18 t_model_size) 20 t_model_sort) 21 t_model_value) (xy_l (xy_l L 6 t_kinds_name) 17 t_model_name) (xy_s (xy_s S 5 0 t_kinds_total) 15 1 t_model_lines) t_kinds_name t_kinds_total n (t_model_name v3.toNatClampNeg) _ hq1444
      refine xe_call1 (ws' := xw_W (xy_a (xy_a (xy_a (xy_a (xy_a (xy_a A 45 t_graph_depth) 16 t_model_number) 19 t_model_order) 18 t_model_size) 20 t_model_sort) 21 t_model_value) (xy_l (xy_l L 6 t_kinds_name) 17 t_model_name) (xy_s (xy_s S 5 0 t_kinds_total) 15 1 t_model_lines)) (by decide) heq1444 (Or.inl rfl) ?_
      obtain rfl := Option.some.inj h
      refine xe_seg ok 1 (G := (fun _ => some (.inl (some (.int q1444)), xw_W (xy_a (xy_a (xy_a (xy_a (xy_a (xy_a A 45 t_graph_depth) 16 t_model_number) 19 t_model_order) 18 t_model_size) 20 t_model_sort) 21 t_model_value) (xy_l (xy_l L 6 t_kinds_name) 17 t_model_name) (xy_s (xy_s S 5 0 t_kinds_total) 15 1 t_model_lines)))) (fun K => rfl) ?_
      exact xe_ret
    · refine xe_neg hc1439 (xe_k ?_)
      refine xe_seg ok 3 (G := (fun K => if v2 = ((1 : Int32)) then K (9, xm_i9, xm_I9, 2, 12, 49, [(0, .ref 2), (2, .int v2), (3, .int v3)], [], xw_W (xy_a (xy_a (xy_a (xy_a (xy_a (xy_a A 45 t_graph_depth) 16 t_model_number) 19 t_model_order) 18 t_model_size) 20 t_model_sort) 21 t_model_value) (xy_l (xy_l L 6 t_kinds_name) 17 t_model_name) (xy_s (xy_s S 5 0 t_kinds_total) 15 1 t_model_lines)) else K (9, xm_i9, xm_I9, 2, 12, 59, [(0, .ref 2), (2, .int v2), (3, .int v3)], [], xw_W (xy_a (xy_a (xy_a (xy_a (xy_a (xy_a A 45 t_graph_depth) 16 t_model_number) 19 t_model_order) 18 t_model_size) 20 t_model_sort) 21 t_model_value) (xy_l (xy_l L 6 t_kinds_name) 17 t_model_name) (xy_s (xy_s S 5 0 t_kinds_total) 15 1 t_model_lines)))) (fun K => rfl) ?_
      rcases xb_if h with ⟨hc1445, h⟩ | ⟨hc1445, h⟩
      · refine xe_pos hc1445 (xe_k ?_)
        refine xe_seg ok 5 (G := (fun K => if xr_in v3 40 = true then K (9, xm_i9, xm_I9, 2, 12, 58, [(0, .ref 2), (2, .int v2), (3, .int v3)], [.int (t_model_size v3.toNatClampNeg)], xw_W (xy_a (xy_a (xy_a (xy_a (xy_a (xy_a A 45 t_graph_depth) 16 t_model_number) 19 t_model_order) 18 t_model_size) 20 t_model_sort) 21 t_model_value) (xy_l (xy_l L 6 t_kinds_name) 17 t_model_name) (xy_s (xy_s S 5 0 t_kinds_total) 15 1 t_model_lines)) else none)) (fun K => rfl) ?_
        obtain ⟨hg1446, h⟩ := xn_if h
        refine xe_pos hg1446 (xe_k ?_)
        obtain rfl := Option.some.inj h
        refine xe_seg ok 1 (G := (fun _ => some (.inl (some (.int (t_model_size v3.toNatClampNeg))), xw_W (xy_a (xy_a (xy_a (xy_a (xy_a (xy_a A 45 t_graph_depth) 16 t_model_number) 19 t_model_order) 18 t_model_size) 20 t_model_sort) 21 t_model_value) (xy_l (xy_l L 6 t_kinds_name) 17 t_model_name) (xy_s (xy_s S 5 0 t_kinds_total) 15 1 t_model_lines)))) (fun K => rfl) ?_
        exact xe_ret
      · refine xe_neg hc1445 (xe_k ?_)
        refine xe_seg ok 3 (G := (fun K => if v2 = ((2 : Int32)) then K (9, xm_i9, xm_I9, 2, 12, 64, [(0, .ref 2), (2, .int v2), (3, .int v3)], [], xw_W (xy_a (xy_a (xy_a (xy_a (xy_a (xy_a A 45 t_graph_depth) 16 t_model_number) 19 t_model_order) 18 t_model_size) 20 t_model_sort) 21 t_model_value) (xy_l (xy_l L 6 t_kinds_name) 17 t_model_name) (xy_s (xy_s S 5 0 t_kinds_total) 15 1 t_model_lines)) else K (9, xm_i9, xm_I9, 2, 12, 75, [(0, .ref 2), (2, .int v2), (3, .int v3)], [], xw_W (xy_a (xy_a (xy_a (xy_a (xy_a (xy_a A 45 t_graph_depth) 16 t_model_number) 19 t_model_order) 18 t_model_size) 20 t_model_sort) 21 t_model_value) (xy_l (xy_l L 6 t_kinds_name) 17 t_model_name) (xy_s (xy_s S 5 0 t_kinds_total) 15 1 t_model_lines)))) (fun K => rfl) ?_
        rcases xb_if h with ⟨hc1447, h⟩ | ⟨hc1447, h⟩
        · refine xe_pos hc1447 (xe_k ?_)
          refine xe_seg ok 4 (G := (fun K => xr_back K 9 xm_i9 xm_I9 2 12 69 [(0, .ref 2), (2, .int v2), (3, .int v3)] [] 78 true (K (121, xm_i121, xm_I121, 0, 0, 0, [(0, .ref 17), (1, .int v3)], [], xw_W (xy_a (xy_a (xy_a (xy_a (xy_a (xy_a A 45 t_graph_depth) 16 t_model_number) 19 t_model_order) 18 t_model_size) 20 t_model_sort) 21 t_model_value) (xy_l (xy_l L 6 t_kinds_name) 17 t_model_name) (xy_s (xy_s S 5 0 t_kinds_total) 15 1 t_model_lines))))) (fun K => rfl) ?_
          obtain ⟨q1455, hq1455, h⟩ := Option.bind_eq_some_iff.mp h
          have heq1455 := xh_md_referencesOf_15 (l := l) (g := g) ok (xy_a (xy_a (xy_a (xy_a (xy_a (xy_a A 45 t_graph_depth) 16 t_model_number) 19 t_model_order) 18 t_model_size) 20 t_model_sort) 21 t_model_value) (xy_l (xy_l L 6 t_kinds_name) 17 t_model_name) (xy_s (xy_s S 5 0 t_kinds_total) 15 1 t_model_lines) t_model_size t_model_sort t_model_value n v3 _ hq1455
          refine xe_call1 (ws' := xw_W (xy_a (xy_a (xy_a (xy_a (xy_a (xy_a A 45 t_graph_depth) 16 t_model_number) 19 t_model_order) 18 t_model_size) 20 t_model_sort) 21 t_model_value) (xy_l (xy_l L 6 t_kinds_name) 17 t_model_name) (xy_s (xy_s S 5 0 t_kinds_total) 15 1 t_model_lines)) (by decide) heq1455 (Or.inl rfl) ?_
          refine xe_seg ok 1 (G := (fun K => K (9, xm_i9, xm_I9, 2, 12, 84, [(0, .ref 2), (2, .int v2), (3, .int v3)], [.int q1455], xw_W (xy_a (xy_a (xy_a (xy_a (xy_a (xy_a A 45 t_graph_depth) 16 t_model_number) 19 t_model_order) 18 t_model_size) 20 t_model_sort) 21 t_model_value) (xy_l (xy_l L 6 t_kinds_name) 17 t_model_name) (xy_s (xy_s S 5 0 t_kinds_total) 15 1 t_model_lines)))) (fun K => rfl) ?_
          refine xe_k ?_
          refine xe_sub [false, false, false] (lv' := []) rfl ?_
          exact xh_xt_told_0_84 ok A L S t_graph_depth t_kinds_name t_kinds_total t_model_lines t_model_name t_model_number t_model_order t_model_size t_model_sort t_model_value n q1455 _ h
        · refine xe_neg hc1447 (xe_k ?_)
          refine xe_seg ok 5 (G := (fun K => if xr_in v3 40 = true then K (9, xm_i9, xm_I9, 2, 12, 84, [(0, .ref 2), (2, .int v2), (3, .int v3)], [.int (t_graph_depth v3.toNatClampNeg)], xw_W (xy_a (xy_a (xy_a (xy_a (xy_a (xy_a A 45 t_graph_depth) 16 t_model_number) 19 t_model_order) 18 t_model_size) 20 t_model_sort) 21 t_model_value) (xy_l (xy_l L 6 t_kinds_name) 17 t_model_name) (xy_s (xy_s S 5 0 t_kinds_total) 15 1 t_model_lines)) else none)) (fun K => rfl) ?_
          obtain ⟨hg1456, h⟩ := xn_if h
          refine xe_pos hg1456 (xe_k ?_)
          refine xe_sub [false, false, false] (lv' := []) rfl ?_
          exact xh_xt_told_0_84 ok A L S t_graph_depth t_kinds_name t_kinds_total t_model_lines t_model_name t_model_number t_model_order t_model_size t_model_sort t_model_value n (t_graph_depth v3.toNatClampNeg) _ h
  · rw [hr1438] at heq1437
    obtain rfl := Option.some.inj h
    exact xe_thr (E := r1438) (ws' := xw_W (xy_a (xy_a (xy_a (xy_a (xy_a (xy_a A 45 t_graph_depth) 16 t_model_number) 19 t_model_order) 18 t_model_size) 20 t_model_sort) 21 t_model_value) (xy_l (xy_l L 6 t_kinds_name) 17 t_model_name) (xy_s (xy_s S 5 0 t_kinds_total) 15 1 t_model_lines)) heq1437 rfl rfl rfl
theorem xh_xt_told_0_19 {l : Launch} {g : xr_G} (ok : xr_OK xm_P) (A : Nat → Nat → Int32) (L : Nat → Nat → Int64) (S : Nat → Nat → Int32) (t_graph_depth : (Nat → Int32)) (t_kinds_name : (Nat → Int64)) (t_kinds_total : Int32) (t_model_lines : Int32) (t_model_name : (Nat → Int64)) (t_model_number : (Nat → Int32)) (t_model_order : (Nat → Int32)) (t_model_size : (Nat → Int32)) (t_model_sort : (Nat → Int32)) (t_model_value : (Nat → Int32)) (n : Nat) : ∀ (v2 : Int32) (v3 : Int32) (r : ((Int32 ⊕ String))), xf_xt_told_19 t_graph_depth t_kinds_name t_kinds_total t_model_lines t_model_name t_model_number t_model_order t_model_size t_model_sort t_model_value n v2 v3 = some r → xV xm_P l g (9, xm_i9, xm_I9, 1, 6, 19, [(0, .ref 2), (2, .int v2), (3, .int v3)], [], xw_W (xy_a (xy_a (xy_a (xy_a (xy_a (xy_a A 45 t_graph_depth) 16 t_model_number) 19 t_model_order) 18 t_model_size) 20 t_model_sort) 21 t_model_value) (xy_l (xy_l L 6 t_kinds_name) 17 t_model_name) (xy_s (xy_s S 5 0 t_kinds_total) 15 1 t_model_lines)) (xo_i r, xw_W (xy_a (xy_a (xy_a (xy_a (xy_a (xy_a A 45 t_graph_depth) 16 t_model_number) 19 t_model_order) 18 t_model_size) 20 t_model_sort) 21 t_model_value) (xy_l (xy_l L 6 t_kinds_name) 17 t_model_name) (xy_s (xy_s S 5 0 t_kinds_total) 15 1 t_model_lines)) := by
  intro v2 v3 r h
  unfold xf_xt_told_19 at h
  refine xe_seg ok 1 (G := (fun K => K (9, xm_i9, xm_I9, 1, 6, 20, [(0, .ref 2), (2, .int v2), (3, .int v3)], [.int ((0 : Int32))], xw_W (xy_a (xy_a (xy_a (xy_a (xy_a (xy_a A 45 t_graph_depth) 16 t_model_number) 19 t_model_order) 18 t_model_size) 20 t_model_sort) 21 t_model_value) (xy_l (xy_l L 6 t_kinds_name) 17 t_model_name) (xy_s (xy_s S 5 0 t_kinds_total) 15 1 t_model_lines)))) (fun K => rfl) ?_
  refine xe_k ?_
  refine xe_sub [true, true, true] (lv' := [(0, .ref 2), (2, .int v2), (3, .int v3)]) rfl ?_
  exact xh_xt_told_0_20 ok A L S t_graph_depth t_kinds_name t_kinds_total t_model_lines t_model_name t_model_number t_model_order t_model_size t_model_sort t_model_value n v2 v3 ((0 : Int32)) _ h
theorem xh_xt_told_0 {l : Launch} {g : xr_G} (ok : xr_OK xm_P) (A : Nat → Nat → Int32) (L : Nat → Nat → Int64) (S : Nat → Nat → Int32) (t_graph_depth : (Nat → Int32)) (t_kinds_name : (Nat → Int64)) (t_kinds_total : Int32) (t_model_lines : Int32) (t_model_name : (Nat → Int64)) (t_model_number : (Nat → Int32)) (t_model_order : (Nat → Int32)) (t_model_size : (Nat → Int32)) (t_model_sort : (Nat → Int32)) (t_model_value : (Nat → Int32)) (n : Nat) : ∀ (a1 : Int32) (a2 : Int32) (r : ((Int32 ⊕ String))), xf_xt_told t_graph_depth t_kinds_name t_kinds_total t_model_lines t_model_name t_model_number t_model_order t_model_size t_model_sort t_model_value n a1 a2 = some r → xV xm_P l g (9, xm_i9, xm_I9, 0, 0, 0, [(0, .ref 2), (1, .int a1), (2, .int a2)], [], xw_W (xy_a (xy_a (xy_a (xy_a (xy_a (xy_a A 45 t_graph_depth) 16 t_model_number) 19 t_model_order) 18 t_model_size) 20 t_model_sort) 21 t_model_value) (xy_l (xy_l L 6 t_kinds_name) 17 t_model_name) (xy_s (xy_s S 5 0 t_kinds_total) 15 1 t_model_lines)) (xo_i r, xw_W (xy_a (xy_a (xy_a (xy_a (xy_a (xy_a A 45 t_graph_depth) 16 t_model_number) 19 t_model_order) 18 t_model_size) 20 t_model_sort) 21 t_model_value) (xy_l (xy_l L 6 t_kinds_name) 17 t_model_name) (xy_s (xy_s S 5 0 t_kinds_total) 15 1 t_model_lines)) := by
  intro a1 a2 r h
  unfold xf_xt_told at h
  refine xe_seg ok 3 (G := (fun K => xr_back K 9 xm_i9 xm_I9 1 6 2 [(0, .ref 2), (1, .int a1), (2, .int a2)] [] 78 true (K (22, xm_i22, xm_I22, 0, 0, 0, [(0, .ref 2), (1, .int a1)], [], xw_W (xy_a (xy_a (xy_a (xy_a (xy_a (xy_a A 45 t_graph_depth) 16 t_model_number) 19 t_model_order) 18 t_model_size) 20 t_model_sort) 21 t_model_value) (xy_l (xy_l L 6 t_kinds_name) 17 t_model_name) (xy_s (xy_s S 5 0 t_kinds_total) 15 1 t_model_lines))))) (fun K => rfl) ?_
  obtain ⟨q1434, hq1434, h⟩ := Option.bind_eq_some_iff.mp h
  have heq1434 := xh_xt_rowOrRefuse_0 (l := l) (g := g) ok (xy_a (xy_a (xy_a (xy_a (xy_a (xy_a A 45 t_graph_depth) 16 t_model_number) 19 t_model_order) 18 t_model_size) 20 t_model_sort) 21 t_model_value) (xy_l (xy_l L 6 t_kinds_name) 17 t_model_name) (xy_s (xy_s S 5 0 t_kinds_total) 15 1 t_model_lines) t_model_lines t_model_number t_model_order n a1 _ hq1434
  rcases xb_sum h with ⟨r1435, hr1435, h⟩ | ⟨r1435, hr1435, h⟩
  · rw [hr1435] at heq1434
    refine xe_call1 (ws' := xw_W (xy_a (xy_a (xy_a (xy_a (xy_a (xy_a A 45 t_graph_depth) 16 t_model_number) 19 t_model_order) 18 t_model_size) 20 t_model_sort) 21 t_model_value) (xy_l (xy_l L 6 t_kinds_name) 17 t_model_name) (xy_s (xy_s S 5 0 t_kinds_total) 15 1 t_model_lines)) (by decide) heq1434 (Or.inl rfl) ?_
    refine xe_seg ok 3 (G := (fun K => if a2 < (0 : Int32) then K (9, xm_i9, xm_I9, 1, 6, 19, [(0, .ref 2), (1, .int a1), (2, .int a2), (3, .int r1435)], [], xw_W (xy_a (xy_a (xy_a (xy_a (xy_a (xy_a A 45 t_graph_depth) 16 t_model_number) 19 t_model_order) 18 t_model_size) 20 t_model_sort) 21 t_model_value) (xy_l (xy_l L 6 t_kinds_name) 17 t_model_name) (xy_s (xy_s S 5 0 t_kinds_total) 15 1 t_model_lines)) else K (9, xm_i9, xm_I9, 1, 6, 10, [(0, .ref 2), (1, .int a1), (2, .int a2), (3, .int r1435)], [], xw_W (xy_a (xy_a (xy_a (xy_a (xy_a (xy_a A 45 t_graph_depth) 16 t_model_number) 19 t_model_order) 18 t_model_size) 20 t_model_sort) 21 t_model_value) (xy_l (xy_l L 6 t_kinds_name) 17 t_model_name) (xy_s (xy_s S 5 0 t_kinds_total) 15 1 t_model_lines)))) (fun K => rfl) ?_
    rcases xb_if h with ⟨hc1436, h⟩ | ⟨hc1436, h⟩
    · refine xe_pos hc1436 (xe_k ?_)
      refine xe_sub [true, false, true, true] (lv' := [(0, .ref 2), (2, .int a2), (3, .int r1435)]) rfl ?_
      exact xh_xt_told_0_19 ok A L S t_graph_depth t_kinds_name t_kinds_total t_model_lines t_model_name t_model_number t_model_order t_model_size t_model_sort t_model_value n a2 r1435 _ h
    · refine xe_neg hc1436 (xe_k ?_)
      refine xe_seg ok 3 (G := (fun K => if ((3 : Int32)) < a2 then K (9, xm_i9, xm_I9, 1, 6, 19, [(0, .ref 2), (1, .int a1), (2, .int a2), (3, .int r1435)], [], xw_W (xy_a (xy_a (xy_a (xy_a (xy_a (xy_a A 45 t_graph_depth) 16 t_model_number) 19 t_model_order) 18 t_model_size) 20 t_model_sort) 21 t_model_value) (xy_l (xy_l L 6 t_kinds_name) 17 t_model_name) (xy_s (xy_s S 5 0 t_kinds_total) 15 1 t_model_lines)) else K (9, xm_i9, xm_I9, 1, 6, 15, [(0, .ref 2), (1, .int a1), (2, .int a2), (3, .int r1435)], [], xw_W (xy_a (xy_a (xy_a (xy_a (xy_a (xy_a A 45 t_graph_depth) 16 t_model_number) 19 t_model_order) 18 t_model_size) 20 t_model_sort) 21 t_model_value) (xy_l (xy_l L 6 t_kinds_name) 17 t_model_name) (xy_s (xy_s S 5 0 t_kinds_total) 15 1 t_model_lines)))) (fun K => rfl) ?_
      rcases xb_if h with ⟨hc1457, h⟩ | ⟨hc1457, h⟩
      · refine xe_pos hc1457 (xe_k ?_)
        refine xe_sub [true, false, true, true] (lv' := [(0, .ref 2), (2, .int a2), (3, .int r1435)]) rfl ?_
        exact xh_xt_told_0_19 ok A L S t_graph_depth t_kinds_name t_kinds_total t_model_lines t_model_name t_model_number t_model_order t_model_size t_model_sort t_model_value n a2 r1435 _ h
      · refine xe_neg hc1457 (xe_k ?_)
        refine xe_seg ok 2 (G := (fun K => K (9, xm_i9, xm_I9, 1, 6, 20, [(0, .ref 2), (1, .int a1), (2, .int a2), (3, .int r1435)], [.int ((1 : Int32))], xw_W (xy_a (xy_a (xy_a (xy_a (xy_a (xy_a A 45 t_graph_depth) 16 t_model_number) 19 t_model_order) 18 t_model_size) 20 t_model_sort) 21 t_model_value) (xy_l (xy_l L 6 t_kinds_name) 17 t_model_name) (xy_s (xy_s S 5 0 t_kinds_total) 15 1 t_model_lines)))) (fun K => rfl) ?_
        refine xe_k ?_
        refine xe_sub [true, false, true, true] (lv' := [(0, .ref 2), (2, .int a2), (3, .int r1435)]) rfl ?_
        exact xh_xt_told_0_20 ok A L S t_graph_depth t_kinds_name t_kinds_total t_model_lines t_model_name t_model_number t_model_order t_model_size t_model_sort t_model_value n a2 r1435 ((1 : Int32)) _ h
  · rw [hr1435] at heq1434
    obtain rfl := Option.some.inj h
    exact xe_thr (E := r1435) (ws' := xw_W (xy_a (xy_a (xy_a (xy_a (xy_a (xy_a A 45 t_graph_depth) 16 t_model_number) 19 t_model_order) 18 t_model_size) 20 t_model_sort) 21 t_model_value) (xy_l (xy_l L 6 t_kinds_name) 17 t_model_name) (xy_s (xy_s S 5 0 t_kinds_total) 15 1 t_model_lines)) heq1434 rfl rfl rfl
theorem xh_la_told_0_77 {l : Launch} {g : xr_G} (ok : xr_OK xm_P) (A : Nat → Nat → Int32) (L : Nat → Nat → Int64) (S : Nat → Nat → Int32) (p1_graph_depth : (Nat → Int32)) (p1_kinds_name : (Nat → Int64)) (p1_kinds_total : Int32) (p1_model_lines : Int32) (p1_model_name : (Nat → Int64)) (p1_model_number : (Nat → Int32)) (p1_model_order : (Nat → Int32)) (p1_model_size : (Nat → Int32)) (p1_model_sort : (Nat → Int32)) (p1_model_value : (Nat → Int32)) (n_p4 : Nat) (n : Nat) : ∀ (p4 : (Nat → Int64)) (a2 : Int32) (a3 : Int32) (r : (Int32 × (Nat → Int64))), xf_la_told p1_graph_depth p1_kinds_name p1_kinds_total p1_model_lines p1_model_name p1_model_number p1_model_order p1_model_size p1_model_sort p1_model_value n_p4 n p4 a2 a3 = some r → xV xm_P l g (175, xm_i175, xm_I175, 0, 0, 0, [(0, .ref 2), (1, .int a2), (2, .int a3), (3, .ref 79)], [], xw_W (xy_a (xy_a (xy_a (xy_a (xy_a (xy_a A 45 p1_graph_depth) 16 p1_model_number) 19 p1_model_order) 18 p1_model_size) 20 p1_model_sort) 21 p1_model_value) (xy_l (xy_l (xy_l L 6 p1_kinds_name) 17 p1_model_name) 77 p4) (xy_s (xy_s S 5 0 p1_kinds_total) 15 1 p1_model_lines)) (.inl (some (.int r.1)), xw_W (xy_a (xy_a (xy_a (xy_a (xy_a (xy_a A 45 p1_graph_depth) 16 p1_model_number) 19 p1_model_order) 18 p1_model_size) 20 p1_model_sort) 21 p1_model_value) (xy_l (xy_l (xy_l L 6 p1_kinds_name) 17 p1_model_name) 77 r.2) (xy_s (xy_s S 5 0 p1_kinds_total) 15 1 p1_model_lines)) := by
  intro p4 a2 a3 r h
  unfold xf_la_told at h
  refine xe_seg ok 6 (G := (fun K => xr_back K 175 xm_i175 xm_I175 2 12 5 [(0, .ref 2), (1, .int a2), (2, .int a3), (3, .ref 79)] [.int ((0 : Int32)), .ref 79] 78 true (K (9, xm_i9, xm_I9, 0, 0, 0, [(0, .ref 2), (1, .int a2), (2, .int a3)], [], xw_W (xy_a (xy_a (xy_a (xy_a (xy_a (xy_a A 45 p1_graph_depth) 16 p1_model_number) 19 p1_model_order) 18 p1_model_size) 20 p1_model_sort) 21 p1_model_value) (xy_l (xy_l (xy_l L 6 p1_kinds_name) 17 p1_model_name) 77 p4) (xy_s (xy_s S 5 0 p1_kinds_total) 15 1 p1_model_lines))))) (fun K => rfl) ?_
  obtain ⟨q1458, hq1458, h⟩ := Option.bind_eq_some_iff.mp h
  have heq1458 := xh_xt_told_0 (l := l) (g := g) ok (xy_a (xy_a (xy_a (xy_a (xy_a (xy_a A 45 p1_graph_depth) 16 p1_model_number) 19 p1_model_order) 18 p1_model_size) 20 p1_model_sort) 21 p1_model_value) (xy_l (xy_l (xy_l L 6 p1_kinds_name) 17 p1_model_name) 77 p4) (xy_s (xy_s S 5 0 p1_kinds_total) 15 1 p1_model_lines) p1_graph_depth p1_kinds_name p1_kinds_total p1_model_lines p1_model_name p1_model_number p1_model_order p1_model_size p1_model_sort p1_model_value n a2 a3 _ hq1458
  rcases xb_sum h with ⟨r1459, hr1459, h⟩ | ⟨r1459, hr1459, h⟩
  · rw [hr1459] at heq1458
    refine xe_call1 (ws' := xw_W (xy_a (xy_a (xy_a (xy_a (xy_a (xy_a A 45 p1_graph_depth) 16 p1_model_number) 19 p1_model_order) 18 p1_model_size) 20 p1_model_sort) 21 p1_model_value) (xy_l (xy_l (xy_l L 6 p1_kinds_name) 17 p1_model_name) 77 p4) (xy_s (xy_s S 5 0 p1_kinds_total) 15 1 p1_model_lines)) (by decide) heq1458 (Or.inl rfl) ?_
    refine xe_seg ok 2 (G := (fun K => if xr_in ((0 : Int32)) 1 = true then K (175, xm_i175, xm_I175, 2, 12, 10, [(0, .ref 2), (1, .int a2), (2, .int a3), (3, .ref 79)], [], xw_W (xy_a (xy_a (xy_a (xy_a (xy_a (xy_a A 45 p1_graph_depth) 16 p1_model_number) 19 p1_model_order) 18 p1_model_size) 20 p1_model_sort) 21 p1_model_value) (xy_l (xy_l (xy_l L 6 p1_kinds_name) 17 p1_model_name) 77 (vp_updL p4 ((0 : Int32)).toNatClampNeg r1459.toInt64)) (xy_s (xy_s S 5 0 p1_kinds_total) 15 1 p1_model_lines)) else none)) (fun K => rfl) ?_
    obtain ⟨hg1460, h⟩ := xn_if h
    refine xe_pos hg1460 (xe_k ?_)
    obtain rfl := Option.some.inj h
    refine xe_seg ok 3 (G := (fun _ => some (.inl (some (.int ((0 : Int32)))), xw_W (xy_a (xy_a (xy_a (xy_a (xy_a (xy_a A 45 p1_graph_depth) 16 p1_model_number) 19 p1_model_order) 18 p1_model_size) 20 p1_model_sort) 21 p1_model_value) (xy_l (xy_l (xy_l L 6 p1_kinds_name) 17 p1_model_name) 77 (vp_updL p4 ((0 : Int32)).toNatClampNeg r1459.toInt64)) (xy_s (xy_s S 5 0 p1_kinds_total) 15 1 p1_model_lines)))) (fun K => rfl) ?_
    exact xe_ret
  · rw [hr1459] at heq1458
    rcases xb_if h with ⟨hc1461, h⟩ | ⟨hc1461, h⟩
    · subst hc1461
      refine xe_catch (ws' := xw_W (xy_a (xy_a (xy_a (xy_a (xy_a (xy_a A 45 p1_graph_depth) 16 p1_model_number) 19 p1_model_order) 18 p1_model_size) 20 p1_model_sort) 21 p1_model_value) (xy_l (xy_l (xy_l L 6 p1_kinds_name) 17 p1_model_name) 77 p4) (xy_s (xy_s S 5 0 p1_kinds_total) 15 1 p1_model_lines)) (by decide) heq1458 (q' := (175, xm_i175, xm_I175, 2, 12, 15, [(0, .ref 2), (1, .int a2), (2, .int a3), (3, .ref 79)], [], xw_W (xy_a (xy_a (xy_a (xy_a (xy_a (xy_a A 45 p1_graph_depth) 16 p1_model_number) 19 p1_model_order) 18 p1_model_size) 20 p1_model_sort) 21 p1_model_value) (xy_l (xy_l (xy_l L 6 p1_kinds_name) 17 p1_model_name) 77 p4) (xy_s (xy_s S 5 0 p1_kinds_total) 15 1 p1_model_lines))) (fun K => rfl) ?_
      obtain rfl := Option.some.inj h
      refine xe_seg ok 2 (G := (fun _ => some (.inl (some (.int ((1 : Int32)))), xw_W (xy_a (xy_a (xy_a (xy_a (xy_a (xy_a A 45 p1_graph_depth) 16 p1_model_number) 19 p1_model_order) 18 p1_model_size) 20 p1_model_sort) 21 p1_model_value) (xy_l (xy_l (xy_l L 6 p1_kinds_name) 17 p1_model_name) 77 p4) (xy_s (xy_s S 5 0 p1_kinds_total) 15 1 p1_model_lines)))) (fun K => rfl) ?_
      exact xe_ret
    · cases h
theorem xh_xt_spotOrRefuse_0_28 {l : Launch} {g : xr_G} (ok : xr_OK xm_P) (A : Nat → Nat → Int32) (L : Nat → Nat → Int64) (S : Nat → Nat → Int32) (t_model_lines : Int32) (t_model_number : (Nat → Int32)) (t_model_order : (Nat → Int32)) (t_model_size : (Nat → Int32)) (n : Nat) : ∀ (v2 : Int32) (v3 : Int32) (s0 : Int32) (r : ((Int32 ⊕ String))), xf_xt_spotOrRefuse_28 t_model_lines t_model_number t_model_order t_model_size n v2 v3 s0 = some r → xV xm_P l g (23, xm_i23, xm_I23, 1, 6, 28, [(2, .int v2), (3, .int v3)], [.int s0], xw_W (xy_a (xy_a (xy_a A 16 t_model_number) 19 t_model_order) 18 t_model_size) L (xy_s S 15 1 t_model_lines)) (xo_i r, xw_W (xy_a (xy_a (xy_a A 16 t_model_number) 19 t_model_order) 18 t_model_size) L (xy_s S 15 1 t_model_lines)) := by
  intro v2 v3 s0 r h
  unfold xf_xt_spotOrRefuse_28 at h
  refine xe_seg ok 1 (G := (fun K => xr_back K 23 xm_i23 xm_I23 2 12 28 [(2, .int v2), (3, .int v3)] [] 78 true (K (21, xm_i21, xm_I21, 0, 0, 0, [(0, .int s0)], [], xw_W (xy_a (xy_a (xy_a A 16 t_model_number) 19 t_model_order) 18 t_model_size) L (xy_s S 15 1 t_model_lines))))) (fun K => rfl) ?_
  obtain ⟨q1465, hq1465, h⟩ := Option.bind_eq_some_iff.mp h
  have heq1465 := xh_xt_refuseUnless (l := l) (g := g) ok (xy_a (xy_a (xy_a A 16 t_model_number) 19 t_model_order) 18 t_model_size) L (xy_s S 15 1 t_model_lines) s0 _ hq1465
  rcases xb_sum h with ⟨r1466, hr1466, h⟩ | ⟨r1466, hr1466, h⟩
  · rw [hr1466] at heq1465
    refine xe_call0 (ws' := xw_W (xy_a (xy_a (xy_a A 16 t_model_number) 19 t_model_order) 18 t_model_size) L (xy_s S 15 1 t_model_lines)) (by decide) heq1465 (Or.inl rfl) ?_
    obtain rfl := Option.some.inj h
    refine xe_seg ok 6 (G := (fun _ => some (.inl (some (.int ((v3 * ((8 : Int32))) + v2))), xw_W (xy_a (xy_a (xy_a A 16 t_model_number) 19 t_model_order) 18 t_model_size) L (xy_s S 15 1 t_model_lines)))) (fun K => rfl) ?_
    exact xe_ret
  · rw [hr1466] at heq1465
    obtain rfl := Option.some.inj h
    exact xe_thr (E := r1466) (ws' := xw_W (xy_a (xy_a (xy_a A 16 t_model_number) 19 t_model_order) 18 t_model_size) L (xy_s S 15 1 t_model_lines)) heq1465 rfl rfl rfl
theorem xh_xt_spotOrRefuse_0_27 {l : Launch} {g : xr_G} (ok : xr_OK xm_P) (A : Nat → Nat → Int32) (L : Nat → Nat → Int64) (S : Nat → Nat → Int32) (t_model_lines : Int32) (t_model_number : (Nat → Int32)) (t_model_order : (Nat → Int32)) (t_model_size : (Nat → Int32)) (n : Nat) : ∀ (v2 : Int32) (v3 : Int32) (r : ((Int32 ⊕ String))), xf_xt_spotOrRefuse_27 t_model_lines t_model_number t_model_order t_model_size n v2 v3 = some r → xV xm_P l g (23, xm_i23, xm_I23, 1, 6, 27, [(2, .int v2), (3, .int v3)], [], xw_W (xy_a (xy_a (xy_a A 16 t_model_number) 19 t_model_order) 18 t_model_size) L (xy_s S 15 1 t_model_lines)) (xo_i r, xw_W (xy_a (xy_a (xy_a A 16 t_model_number) 19 t_model_order) 18 t_model_size) L (xy_s S 15 1 t_model_lines)) := by
  intro v2 v3 r h
  unfold xf_xt_spotOrRefuse_27 at h
  refine xe_seg ok 1 (G := (fun K => K (23, xm_i23, xm_I23, 1, 6, 28, [(2, .int v2), (3, .int v3)], [.int ((0 : Int32))], xw_W (xy_a (xy_a (xy_a A 16 t_model_number) 19 t_model_order) 18 t_model_size) L (xy_s S 15 1 t_model_lines)))) (fun K => rfl) ?_
  refine xe_k ?_
  refine xe_sub [true, true] (lv' := [(2, .int v2), (3, .int v3)]) rfl ?_
  exact xh_xt_spotOrRefuse_0_28 ok A L S t_model_lines t_model_number t_model_order t_model_size n v2 v3 ((0 : Int32)) _ h
theorem xh_xt_spotOrRefuse_0 {l : Launch} {g : xr_G} (ok : xr_OK xm_P) (A : Nat → Nat → Int32) (L : Nat → Nat → Int64) (S : Nat → Nat → Int32) (t_model_lines : Int32) (t_model_number : (Nat → Int32)) (t_model_order : (Nat → Int32)) (t_model_size : (Nat → Int32)) (n : Nat) : ∀ (a1 : Int32) (a2 : Int32) (r : ((Int32 ⊕ String))), xf_xt_spotOrRefuse t_model_lines t_model_number t_model_order t_model_size n a1 a2 = some r → xV xm_P l g (23, xm_i23, xm_I23, 0, 0, 0, [(0, .ref 2), (1, .int a1), (2, .int a2)], [], xw_W (xy_a (xy_a (xy_a A 16 t_model_number) 19 t_model_order) 18 t_model_size) L (xy_s S 15 1 t_model_lines)) (xo_i r, xw_W (xy_a (xy_a (xy_a A 16 t_model_number) 19 t_model_order) 18 t_model_size) L (xy_s S 15 1 t_model_lines)) := by
  intro a1 a2 r h
  unfold xf_xt_spotOrRefuse at h
  refine xe_seg ok 3 (G := (fun K => xr_back K 23 xm_i23 xm_I23 1 6 2 [(0, .ref 2), (1, .int a1), (2, .int a2)] [] 78 true (K (22, xm_i22, xm_I22, 0, 0, 0, [(0, .ref 2), (1, .int a1)], [], xw_W (xy_a (xy_a (xy_a A 16 t_model_number) 19 t_model_order) 18 t_model_size) L (xy_s S 15 1 t_model_lines))))) (fun K => rfl) ?_
  obtain ⟨q1462, hq1462, h⟩ := Option.bind_eq_some_iff.mp h
  have heq1462 := xh_xt_rowOrRefuse_0 (l := l) (g := g) ok (xy_a (xy_a (xy_a A 16 t_model_number) 19 t_model_order) 18 t_model_size) L (xy_s S 15 1 t_model_lines) t_model_lines t_model_number t_model_order n a1 _ hq1462
  rcases xb_sum h with ⟨r1463, hr1463, h⟩ | ⟨r1463, hr1463, h⟩
  · rw [hr1463] at heq1462
    refine xe_call1 (ws' := xw_W (xy_a (xy_a (xy_a A 16 t_model_number) 19 t_model_order) 18 t_model_size) L (xy_s S 15 1 t_model_lines)) (by decide) heq1462 (Or.inl rfl) ?_
    refine xe_seg ok 3 (G := (fun K => if a2 < (0 : Int32) then K (23, xm_i23, xm_I23, 1, 6, 27, [(0, .ref 2), (1, .int a1), (2, .int a2), (3, .int r1463)], [], xw_W (xy_a (xy_a (xy_a A 16 t_model_number) 19 t_model_order) 18 t_model_size) L (xy_s S 15 1 t_model_lines)) else K (23, xm_i23, xm_I23, 1, 6, 10, [(0, .ref 2), (1, .int a1), (2, .int a2), (3, .int r1463)], [], xw_W (xy_a (xy_a (xy_a A 16 t_model_number) 19 t_model_order) 18 t_model_size) L (xy_s S 15 1 t_model_lines)))) (fun K => rfl) ?_
    rcases xb_if h with ⟨hc1464, h⟩ | ⟨hc1464, h⟩
    · refine xe_pos hc1464 (xe_k ?_)
      refine xe_sub [false, false, true, true] (lv' := [(2, .int a2), (3, .int r1463)]) rfl ?_
      exact xh_xt_spotOrRefuse_0_27 ok A L S t_model_lines t_model_number t_model_order t_model_size n a2 r1463 _ h
    · refine xe_neg hc1464 (xe_k ?_)
      refine xe_seg ok 6 (G := (fun K => if xr_in r1463 40 = true then K (23, xm_i23, xm_I23, 1, 6, 20, [(0, .ref 2), (1, .int a1), (2, .int a2), (3, .int r1463)], [.int (t_model_size r1463.toNatClampNeg), .int a2], xw_W (xy_a (xy_a (xy_a A 16 t_model_number) 19 t_model_order) 18 t_model_size) L (xy_s S 15 1 t_model_lines)) else none)) (fun K => rfl) ?_
      obtain ⟨hg1467, h⟩ := xn_if h
      refine xe_pos hg1467 (xe_k ?_)
      refine xe_seg ok 1 (G := (fun K => if a2 < (t_model_size r1463.toNatClampNeg) then K (23, xm_i23, xm_I23, 1, 6, 23, [(0, .ref 2), (1, .int a1), (2, .int a2), (3, .int r1463)], [], xw_W (xy_a (xy_a (xy_a A 16 t_model_number) 19 t_model_order) 18 t_model_size) L (xy_s S 15 1 t_model_lines)) else K (23, xm_i23, xm_I23, 1, 6, 27, [(0, .ref 2), (1, .int a1), (2, .int a2), (3, .int r1463)], [], xw_W (xy_a (xy_a (xy_a A 16 t_model_number) 19 t_model_order) 18 t_model_size) L (xy_s S 15 1 t_model_lines)))) (fun K => rfl) ?_
      rcases xb_if h with ⟨hc1468, h⟩ | ⟨hc1468, h⟩
      · refine xe_pos hc1468 (xe_k ?_)
        refine xe_seg ok 2 (G := (fun K => K (23, xm_i23, xm_I23, 1, 6, 28, [(0, .ref 2), (1, .int a1), (2, .int a2), (3, .int r1463)], [.int ((1 : Int32))], xw_W (xy_a (xy_a (xy_a A 16 t_model_number) 19 t_model_order) 18 t_model_size) L (xy_s S 15 1 t_model_lines)))) (fun K => rfl) ?_
        refine xe_k ?_
        refine xe_sub [false, false, true, true] (lv' := [(2, .int a2), (3, .int r1463)]) rfl ?_
        exact xh_xt_spotOrRefuse_0_28 ok A L S t_model_lines t_model_number t_model_order t_model_size n a2 r1463 ((1 : Int32)) _ h
      · refine xe_neg hc1468 (xe_k ?_)
        refine xe_sub [false, false, true, true] (lv' := [(2, .int a2), (3, .int r1463)]) rfl ?_
        exact xh_xt_spotOrRefuse_0_27 ok A L S t_model_lines t_model_number t_model_order t_model_size n a2 r1463 _ h
  · rw [hr1463] at heq1462
    obtain rfl := Option.some.inj h
    exact xe_thr (E := r1463) (ws' := xw_W (xy_a (xy_a (xy_a A 16 t_model_number) 19 t_model_order) 18 t_model_size) L (xy_s S 15 1 t_model_lines)) heq1462 rfl rfl rfl
theorem xh_xt_argument_0_52 {l : Launch} {g : xr_G} (ok : xr_OK xm_P) (A : Nat → Nat → Int32) (L : Nat → Nat → Int64) (S : Nat → Nat → Int32) (t_model_lines : Int32) (t_model_number : (Nat → Int32)) (t_model_order : (Nat → Int32)) (t_model_size : (Nat → Int32)) (t_model_sort : (Nat → Int32)) (t_model_value : (Nat → Int32)) (n : Nat) : ∀ (s0 : Int32) (r : ((Int32 ⊕ String))), xf_xt_argument_52 t_model_lines t_model_number t_model_order t_model_size t_model_sort t_model_value n s0 = some r → xV xm_P l g (10, xm_i10, xm_I10, 3, 18, 52, [], [.int s0], xw_W (xy_a (xy_a (xy_a (xy_a (xy_a A 16 t_model_number) 19 t_model_order) 18 t_model_size) 20 t_model_sort) 21 t_model_value) L (xy_s S 15 1 t_model_lines)) (xo_i r, xw_W (xy_a (xy_a (xy_a (xy_a (xy_a A 16 t_model_number) 19 t_model_order) 18 t_model_size) 20 t_model_sort) 21 t_model_value) L (xy_s S 15 1 t_model_lines)) := by
  intro s0 r h
  unfold xf_xt_argument_52 at h
  obtain rfl := Option.some.inj h
  refine xe_seg ok 1 (G := (fun _ => some (.inl (some (.int s0)), xw_W (xy_a (xy_a (xy_a (xy_a (xy_a A 16 t_model_number) 19 t_model_order) 18 t_model_size) 20 t_model_sort) 21 t_model_value) L (xy_s S 15 1 t_model_lines)))) (fun K => rfl) ?_
  exact xe_ret
theorem xh_xt_argument_0_22 {l : Launch} {g : xr_G} (ok : xr_OK xm_P) (A : Nat → Nat → Int32) (L : Nat → Nat → Int64) (S : Nat → Nat → Int32) (t_model_lines : Int32) (t_model_number : (Nat → Int32)) (t_model_order : (Nat → Int32)) (t_model_size : (Nat → Int32)) (t_model_sort : (Nat → Int32)) (t_model_value : (Nat → Int32)) (n : Nat) : ∀ (v3 : Int32) (v4 : Int32) (s0 : Int32) (r : ((Int32 ⊕ String))), xf_xt_argument_22 t_model_lines t_model_number t_model_order t_model_size t_model_sort t_model_value n v3 v4 s0 = some r → xV xm_P l g (10, xm_i10, xm_I10, 2, 12, 22, [(0, .ref 2), (3, .int v3), (4, .int v4)], [.int s0], xw_W (xy_a (xy_a (xy_a (xy_a (xy_a A 16 t_model_number) 19 t_model_order) 18 t_model_size) 20 t_model_sort) 21 t_model_value) L (xy_s S 15 1 t_model_lines)) (xo_i r, xw_W (xy_a (xy_a (xy_a (xy_a (xy_a A 16 t_model_number) 19 t_model_order) 18 t_model_size) 20 t_model_sort) 21 t_model_value) L (xy_s S 15 1 t_model_lines)) := by
  intro v3 v4 s0 r h
  unfold xf_xt_argument_22 at h
  refine xe_seg ok 1 (G := (fun K => xr_back K 10 xm_i10 xm_I10 3 18 22 [(0, .ref 2), (3, .int v3), (4, .int v4)] [] 78 true (K (21, xm_i21, xm_I21, 0, 0, 0, [(0, .int s0)], [], xw_W (xy_a (xy_a (xy_a (xy_a (xy_a A 16 t_model_number) 19 t_model_order) 18 t_model_size) 20 t_model_sort) 21 t_model_value) L (xy_s S 15 1 t_model_lines))))) (fun K => rfl) ?_
  obtain ⟨q1472, hq1472, h⟩ := Option.bind_eq_some_iff.mp h
  have heq1472 := xh_xt_refuseUnless (l := l) (g := g) ok (xy_a (xy_a (xy_a (xy_a (xy_a A 16 t_model_number) 19 t_model_order) 18 t_model_size) 20 t_model_sort) 21 t_model_value) L (xy_s S 15 1 t_model_lines) s0 _ hq1472
  rcases xb_sum h with ⟨r1473, hr1473, h⟩ | ⟨r1473, hr1473, h⟩
  · rw [hr1473] at heq1472
    refine xe_call0 (ws' := xw_W (xy_a (xy_a (xy_a (xy_a (xy_a A 16 t_model_number) 19 t_model_order) 18 t_model_size) 20 t_model_sort) 21 t_model_value) L (xy_s S 15 1 t_model_lines)) (by decide) heq1472 (Or.inl rfl) ?_
    refine xe_seg ok 2 (G := (fun K => if v3 = (0 : Int32) then K (10, xm_i10, xm_I10, 3, 18, 29, [(0, .ref 2), (3, .int v3), (4, .int v4)], [], xw_W (xy_a (xy_a (xy_a (xy_a (xy_a A 16 t_model_number) 19 t_model_order) 18 t_model_size) 20 t_model_sort) 21 t_model_value) L (xy_s S 15 1 t_model_lines)) else K (10, xm_i10, xm_I10, 3, 18, 42, [(0, .ref 2), (3, .int v3), (4, .int v4)], [], xw_W (xy_a (xy_a (xy_a (xy_a (xy_a A 16 t_model_number) 19 t_model_order) 18 t_model_size) 20 t_model_sort) 21 t_model_value) L (xy_s S 15 1 t_model_lines)))) (fun K => rfl) ?_
    rcases xb_if h with ⟨hc1474, h⟩ | ⟨hc1474, h⟩
    · refine xe_pos hc1474 (xe_k ?_)
      refine xe_seg ok 5 (G := (fun K => if xr_in v4 320 = true then K (10, xm_i10, xm_I10, 3, 18, 39, [(0, .ref 2), (3, .int v3), (4, .int v4)], [.int (t_model_sort v4.toNatClampNeg)], xw_W (xy_a (xy_a (xy_a (xy_a (xy_a A 16 t_model_number) 19 t_model_order) 18 t_model_size) 20 t_model_sort) 21 t_model_value) L (xy_s S 15 1 t_model_lines)) else none)) (fun K => rfl) ?_
      obtain ⟨hg1475, h⟩ := xn_if h
      refine xe_pos hg1475 (xe_k ?_)
      refine xe_seg ok 1 (G := (fun K => K (10, xm_i10, xm_I10, 3, 18, 52, [(0, .ref 2), (3, .int v3), (4, .int v4)], [.int (t_model_sort v4.toNatClampNeg)], xw_W (xy_a (xy_a (xy_a (xy_a (xy_a A 16 t_model_number) 19 t_model_order) 18 t_model_size) 20 t_model_sort) 21 t_model_value) L (xy_s S 15 1 t_model_lines)))) (fun K => rfl) ?_
      refine xe_k ?_
      refine xe_sub [false, false, false] (lv' := []) rfl ?_
      exact xh_xt_argument_0_52 ok A L S t_model_lines t_model_number t_model_order t_model_size t_model_sort t_model_value n (t_model_sort v4.toNatClampNeg) _ h
    · refine xe_neg hc1474 (xe_k ?_)
      refine xe_seg ok 5 (G := (fun K => if xr_in v4 320 = true then K (10, xm_i10, xm_I10, 3, 18, 52, [(0, .ref 2), (3, .int v3), (4, .int v4)], [.int (t_model_value v4.toNatClampNeg)], xw_W (xy_a (xy_a (xy_a (xy_a (xy_a A 16 t_model_number) 19 t_model_order) 18 t_model_size) 20 t_model_sort) 21 t_model_value) L (xy_s S 15 1 t_model_lines)) else none)) (fun K => rfl) ?_
      obtain ⟨hg1476, h⟩ := xn_if h
      refine xe_pos hg1476 (xe_k ?_)
      refine xe_sub [false, false, false] (lv' := []) rfl ?_
      exact xh_xt_argument_0_52 ok A L S t_model_lines t_model_number t_model_order t_model_size t_model_sort t_model_value n (t_model_value v4.toNatClampNeg) _ h
  · rw [hr1473] at heq1472
    obtain rfl := Option.some.inj h
    exact xe_thr (E := r1473) (ws' := xw_W (xy_a (xy_a (xy_a (xy_a (xy_a A 16 t_model_number) 19 t_model_order) 18 t_model_size) 20 t_model_sort) 21 t_model_value) L (xy_s S 15 1 t_model_lines)) heq1472 rfl rfl rfl
theorem xh_xt_argument_0_17 {l : Launch} {g : xr_G} (ok : xr_OK xm_P) (A : Nat → Nat → Int32) (L : Nat → Nat → Int64) (S : Nat → Nat → Int32) (t_model_lines : Int32) (t_model_number : (Nat → Int32)) (t_model_order : (Nat → Int32)) (t_model_size : (Nat → Int32)) (t_model_sort : (Nat → Int32)) (t_model_value : (Nat → Int32)) (n : Nat) : ∀ (v3 : Int32) (v4 : Int32) (r : ((Int32 ⊕ String))), xf_xt_argument_17 t_model_lines t_model_number t_model_order t_model_size t_model_sort t_model_value n v3 v4 = some r → xV xm_P l g (10, xm_i10, xm_I10, 2, 12, 17, [(0, .ref 2), (3, .int v3), (4, .int v4)], [], xw_W (xy_a (xy_a (xy_a (xy_a (xy_a A 16 t_model_number) 19 t_model_order) 18 t_model_size) 20 t_model_sort) 21 t_model_value) L (xy_s S 15 1 t_model_lines)) (xo_i r, xw_W (xy_a (xy_a (xy_a (xy_a (xy_a A 16 t_model_number) 19 t_model_order) 18 t_model_size) 20 t_model_sort) 21 t_model_value) L (xy_s S 15 1 t_model_lines)) := by
  intro v3 v4 r h
  unfold xf_xt_argument_17 at h
  refine xe_seg ok 2 (G := (fun K => K (10, xm_i10, xm_I10, 2, 12, 22, [(0, .ref 2), (3, .int v3), (4, .int v4)], [.int ((1 : Int32))], xw_W (xy_a (xy_a (xy_a (xy_a (xy_a A 16 t_model_number) 19 t_model_order) 18 t_model_size) 20 t_model_sort) 21 t_model_value) L (xy_s S 15 1 t_model_lines)))) (fun K => rfl) ?_
  refine xe_k ?_
  refine xe_sub [true, true, true] (lv' := [(0, .ref 2), (3, .int v3), (4, .int v4)]) rfl ?_
  exact xh_xt_argument_0_22 ok A L S t_model_lines t_model_number t_model_order t_model_size t_model_sort t_model_value n v3 v4 ((1 : Int32)) _ h
theorem xh_xt_argument_0 {l : Launch} {g : xr_G} (ok : xr_OK xm_P) (A : Nat → Nat → Int32) (L : Nat → Nat → Int64) (S : Nat → Nat → Int32) (t_model_lines : Int32) (t_model_number : (Nat → Int32)) (t_model_order : (Nat → Int32)) (t_model_size : (Nat → Int32)) (t_model_sort : (Nat → Int32)) (t_model_value : (Nat → Int32)) (n : Nat) : ∀ (a1 : Int32) (a2 : Int32) (a3 : Int32) (r : ((Int32 ⊕ String))), xf_xt_argument t_model_lines t_model_number t_model_order t_model_size t_model_sort t_model_value n a1 a2 a3 = some r → xV xm_P l g (10, xm_i10, xm_I10, 0, 0, 0, [(0, .ref 2), (1, .int a1), (2, .int a2), (3, .int a3)], [], xw_W (xy_a (xy_a (xy_a (xy_a (xy_a A 16 t_model_number) 19 t_model_order) 18 t_model_size) 20 t_model_sort) 21 t_model_value) L (xy_s S 15 1 t_model_lines)) (xo_i r, xw_W (xy_a (xy_a (xy_a (xy_a (xy_a A 16 t_model_number) 19 t_model_order) 18 t_model_size) 20 t_model_sort) 21 t_model_value) L (xy_s S 15 1 t_model_lines)) := by
  intro a1 a2 a3 r h
  unfold xf_xt_argument at h
  refine xe_seg ok 4 (G := (fun K => xr_back K 10 xm_i10 xm_I10 2 12 3 [(0, .ref 2), (1, .int a1), (2, .int a2), (3, .int a3)] [] 78 true (K (23, xm_i23, xm_I23, 0, 0, 0, [(0, .ref 2), (1, .int a1), (2, .int a2)], [], xw_W (xy_a (xy_a (xy_a (xy_a (xy_a A 16 t_model_number) 19 t_model_order) 18 t_model_size) 20 t_model_sort) 21 t_model_value) L (xy_s S 15 1 t_model_lines))))) (fun K => rfl) ?_
  obtain ⟨q1469, hq1469, h⟩ := Option.bind_eq_some_iff.mp h
  have heq1469 := xh_xt_spotOrRefuse_0 (l := l) (g := g) ok (xy_a (xy_a (xy_a (xy_a (xy_a A 16 t_model_number) 19 t_model_order) 18 t_model_size) 20 t_model_sort) 21 t_model_value) L (xy_s S 15 1 t_model_lines) t_model_lines t_model_number t_model_order t_model_size n a1 a2 _ hq1469
  rcases xb_sum h with ⟨r1470, hr1470, h⟩ | ⟨r1470, hr1470, h⟩
  · rw [hr1470] at heq1469
    refine xe_call1 (ws' := xw_W (xy_a (xy_a (xy_a (xy_a (xy_a A 16 t_model_number) 19 t_model_order) 18 t_model_size) 20 t_model_sort) 21 t_model_value) L (xy_s S 15 1 t_model_lines)) (by decide) heq1469 (Or.inl rfl) ?_
    refine xe_seg ok 3 (G := (fun K => if a3 = (0 : Int32) then K (10, xm_i10, xm_I10, 2, 12, 17, [(0, .ref 2), (1, .int a1), (2, .int a2), (3, .int a3), (4, .int r1470)], [], xw_W (xy_a (xy_a (xy_a (xy_a (xy_a A 16 t_model_number) 19 t_model_order) 18 t_model_size) 20 t_model_sort) 21 t_model_value) L (xy_s S 15 1 t_model_lines)) else K (10, xm_i10, xm_I10, 2, 12, 12, [(0, .ref 2), (1, .int a1), (2, .int a2), (3, .int a3), (4, .int r1470)], [], xw_W (xy_a (xy_a (xy_a (xy_a (xy_a A 16 t_model_number) 19 t_model_order) 18 t_model_size) 20 t_model_sort) 21 t_model_value) L (xy_s S 15 1 t_model_lines)))) (fun K => rfl) ?_
    rcases xb_if h with ⟨hc1471, h⟩ | ⟨hc1471, h⟩
    · refine xe_pos hc1471 (xe_k ?_)
      refine xe_sub [true, false, false, true, true] (lv' := [(0, .ref 2), (3, .int a3), (4, .int r1470)]) rfl ?_
      exact xh_xt_argument_0_17 ok A L S t_model_lines t_model_number t_model_order t_model_size t_model_sort t_model_value n a3 r1470 _ h
    · refine xe_neg hc1471 (xe_k ?_)
      refine xe_seg ok 3 (G := (fun K => if a3 = ((1 : Int32)) then K (10, xm_i10, xm_I10, 2, 12, 17, [(0, .ref 2), (1, .int a1), (2, .int a2), (3, .int a3), (4, .int r1470)], [], xw_W (xy_a (xy_a (xy_a (xy_a (xy_a A 16 t_model_number) 19 t_model_order) 18 t_model_size) 20 t_model_sort) 21 t_model_value) L (xy_s S 15 1 t_model_lines)) else K (10, xm_i10, xm_I10, 2, 12, 21, [(0, .ref 2), (1, .int a1), (2, .int a2), (3, .int a3), (4, .int r1470)], [], xw_W (xy_a (xy_a (xy_a (xy_a (xy_a A 16 t_model_number) 19 t_model_order) 18 t_model_size) 20 t_model_sort) 21 t_model_value) L (xy_s S 15 1 t_model_lines)))) (fun K => rfl) ?_
      rcases xb_if h with ⟨hc1477, h⟩ | ⟨hc1477, h⟩
      · refine xe_pos hc1477 (xe_k ?_)
        refine xe_sub [true, false, false, true, true] (lv' := [(0, .ref 2), (3, .int a3), (4, .int r1470)]) rfl ?_
        exact xh_xt_argument_0_17 ok A L S t_model_lines t_model_number t_model_order t_model_size t_model_sort t_model_value n a3 r1470 _ h
      · refine xe_neg hc1477 (xe_k ?_)
        refine xe_seg ok 1 (G := (fun K => K (10, xm_i10, xm_I10, 2, 12, 22, [(0, .ref 2), (1, .int a1), (2, .int a2), (3, .int a3), (4, .int r1470)], [.int ((0 : Int32))], xw_W (xy_a (xy_a (xy_a (xy_a (xy_a A 16 t_model_number) 19 t_model_order) 18 t_model_size) 20 t_model_sort) 21 t_model_value) L (xy_s S 15 1 t_model_lines)))) (fun K => rfl) ?_
        refine xe_k ?_
        refine xe_sub [true, false, false, true, true] (lv' := [(0, .ref 2), (3, .int a3), (4, .int r1470)]) rfl ?_
        exact xh_xt_argument_0_22 ok A L S t_model_lines t_model_number t_model_order t_model_size t_model_sort t_model_value n a3 r1470 ((0 : Int32)) _ h
  · rw [hr1470] at heq1469
    obtain rfl := Option.some.inj h
    exact xe_thr (E := r1470) (ws' := xw_W (xy_a (xy_a (xy_a (xy_a (xy_a A 16 t_model_number) 19 t_model_order) 18 t_model_size) 20 t_model_sort) 21 t_model_value) L (xy_s S 15 1 t_model_lines)) heq1469 rfl rfl rfl
theorem xh_la_argument_0_77 {l : Launch} {g : xr_G} (ok : xr_OK xm_P) (A : Nat → Nat → Int32) (L : Nat → Nat → Int64) (S : Nat → Nat → Int32) (p1_model_lines : Int32) (p1_model_number : (Nat → Int32)) (p1_model_order : (Nat → Int32)) (p1_model_size : (Nat → Int32)) (p1_model_sort : (Nat → Int32)) (p1_model_value : (Nat → Int32)) (n_p5 : Nat) (n : Nat) : ∀ (p5 : (Nat → Int64)) (a2 : Int32) (a3 : Int32) (a4 : Int32) (r : (Int32 × (Nat → Int64))), xf_la_argument p1_model_lines p1_model_number p1_model_order p1_model_size p1_model_sort p1_model_value n_p5 n p5 a2 a3 a4 = some r → xV xm_P l g (176, xm_i176, xm_I176, 0, 0, 0, [(0, .ref 2), (1, .int a2), (2, .int a3), (3, .int a4), (4, .ref 79)], [], xw_W (xy_a (xy_a (xy_a (xy_a (xy_a A 16 p1_model_number) 19 p1_model_order) 18 p1_model_size) 20 p1_model_sort) 21 p1_model_value) (xy_l L 77 p5) (xy_s S 15 1 p1_model_lines)) (.inl (some (.int r.1)), xw_W (xy_a (xy_a (xy_a (xy_a (xy_a A 16 p1_model_number) 19 p1_model_order) 18 p1_model_size) 20 p1_model_sort) 21 p1_model_value) (xy_l L 77 r.2) (xy_s S 15 1 p1_model_lines)) := by
  intro p5 a2 a3 a4 r h
  unfold xf_la_argument at h
  refine xe_seg ok 7 (G := (fun K => xr_back K 176 xm_i176 xm_I176 3 18 7 [(0, .ref 2), (1, .int a2), (2, .int a3), (3, .int a4), (4, .ref 79)] [.int ((0 : Int32)), .ref 79] 78 true (K (10, xm_i10, xm_I10, 0, 0, 0, [(0, .ref 2), (1, .int a2), (2, .int a3), (3, .int a4)], [], xw_W (xy_a (xy_a (xy_a (xy_a (xy_a A 16 p1_model_number) 19 p1_model_order) 18 p1_model_size) 20 p1_model_sort) 21 p1_model_value) (xy_l L 77 p5) (xy_s S 15 1 p1_model_lines))))) (fun K => rfl) ?_
  obtain ⟨q1478, hq1478, h⟩ := Option.bind_eq_some_iff.mp h
  have heq1478 := xh_xt_argument_0 (l := l) (g := g) ok (xy_a (xy_a (xy_a (xy_a (xy_a A 16 p1_model_number) 19 p1_model_order) 18 p1_model_size) 20 p1_model_sort) 21 p1_model_value) (xy_l L 77 p5) (xy_s S 15 1 p1_model_lines) p1_model_lines p1_model_number p1_model_order p1_model_size p1_model_sort p1_model_value n a2 a3 a4 _ hq1478
  rcases xb_sum h with ⟨r1479, hr1479, h⟩ | ⟨r1479, hr1479, h⟩
  · rw [hr1479] at heq1478
    refine xe_call1 (ws' := xw_W (xy_a (xy_a (xy_a (xy_a (xy_a A 16 p1_model_number) 19 p1_model_order) 18 p1_model_size) 20 p1_model_sort) 21 p1_model_value) (xy_l L 77 p5) (xy_s S 15 1 p1_model_lines)) (by decide) heq1478 (Or.inl rfl) ?_
    refine xe_seg ok 2 (G := (fun K => if xr_in ((0 : Int32)) 1 = true then K (176, xm_i176, xm_I176, 3, 18, 12, [(0, .ref 2), (1, .int a2), (2, .int a3), (3, .int a4), (4, .ref 79)], [], xw_W (xy_a (xy_a (xy_a (xy_a (xy_a A 16 p1_model_number) 19 p1_model_order) 18 p1_model_size) 20 p1_model_sort) 21 p1_model_value) (xy_l L 77 (vp_updL p5 ((0 : Int32)).toNatClampNeg r1479.toInt64)) (xy_s S 15 1 p1_model_lines)) else none)) (fun K => rfl) ?_
    obtain ⟨hg1480, h⟩ := xn_if h
    refine xe_pos hg1480 (xe_k ?_)
    obtain rfl := Option.some.inj h
    refine xe_seg ok 3 (G := (fun _ => some (.inl (some (.int ((0 : Int32)))), xw_W (xy_a (xy_a (xy_a (xy_a (xy_a A 16 p1_model_number) 19 p1_model_order) 18 p1_model_size) 20 p1_model_sort) 21 p1_model_value) (xy_l L 77 (vp_updL p5 ((0 : Int32)).toNatClampNeg r1479.toInt64)) (xy_s S 15 1 p1_model_lines)))) (fun K => rfl) ?_
    exact xe_ret
  · rw [hr1479] at heq1478
    rcases xb_if h with ⟨hc1481, h⟩ | ⟨hc1481, h⟩
    · subst hc1481
      refine xe_catch (ws' := xw_W (xy_a (xy_a (xy_a (xy_a (xy_a A 16 p1_model_number) 19 p1_model_order) 18 p1_model_size) 20 p1_model_sort) 21 p1_model_value) (xy_l L 77 p5) (xy_s S 15 1 p1_model_lines)) (by decide) heq1478 (q' := (176, xm_i176, xm_I176, 3, 18, 17, [(0, .ref 2), (1, .int a2), (2, .int a3), (3, .int a4), (4, .ref 79)], [], xw_W (xy_a (xy_a (xy_a (xy_a (xy_a A 16 p1_model_number) 19 p1_model_order) 18 p1_model_size) 20 p1_model_sort) 21 p1_model_value) (xy_l L 77 p5) (xy_s S 15 1 p1_model_lines))) (fun K => rfl) ?_
      obtain rfl := Option.some.inj h
      refine xe_seg ok 2 (G := (fun _ => some (.inl (some (.int ((1 : Int32)))), xw_W (xy_a (xy_a (xy_a (xy_a (xy_a A 16 p1_model_number) 19 p1_model_order) 18 p1_model_size) 20 p1_model_sort) 21 p1_model_value) (xy_l L 77 p5) (xy_s S 15 1 p1_model_lines)))) (fun K => rfl) ?_
      exact xe_ret
    · cases h
theorem xh_xt_item_0_30 {l : Launch} {g : xr_G} (ok : xr_OK xm_P) (A : Nat → Nat → Int32) (L : Nat → Nat → Int64) (S : Nat → Nat → Int32) (t_model_items : (Nat → Int32)) (t_model_lines : Int32) (t_model_number : (Nat → Int32)) (t_model_order : (Nat → Int32)) (t_model_size : (Nat → Int32)) (t_model_sort : (Nat → Int32)) (t_model_start : (Nat → Int32)) (t_model_used : Int32) (t_model_value : (Nat → Int32)) (n : Nat) : ∀ (v3 : Int32) (v4 : Int32) (s0 : Int32) (r : ((Int32 ⊕ String))), xf_xt_item_30 t_model_items t_model_lines t_model_number t_model_order t_model_size t_model_sort t_model_start t_model_used t_model_value n v3 v4 s0 = some r → xV xm_P l g (11, xm_i11, xm_I11, 2, 12, 30, [(0, .ref 2), (3, .int v3), (4, .int v4)], [.int s0], xw_W (xy_a (xy_a (xy_a (xy_a (xy_a (xy_a (xy_a A 23 t_model_items) 16 t_model_number) 19 t_model_order) 18 t_model_size) 20 t_model_sort) 22 t_model_start) 21 t_model_value) L (xy_s (xy_s S 15 1 t_model_lines) 15 2 t_model_used)) (xo_i r, xw_W (xy_a (xy_a (xy_a (xy_a (xy_a (xy_a (xy_a A 23 t_model_items) 16 t_model_number) 19 t_model_order) 18 t_model_size) 20 t_model_sort) 22 t_model_start) 21 t_model_value) L (xy_s (xy_s S 15 1 t_model_lines) 15 2 t_model_used)) := by
  intro v3 v4 s0 r h
  unfold xf_xt_item_30 at h
  refine xe_seg ok 1 (G := (fun K => xr_back K 11 xm_i11 xm_I11 3 18 30 [(0, .ref 2), (3, .int v3), (4, .int v4)] [] 78 true (K (21, xm_i21, xm_I21, 0, 0, 0, [(0, .int s0)], [], xw_W (xy_a (xy_a (xy_a (xy_a (xy_a (xy_a (xy_a A 23 t_model_items) 16 t_model_number) 19 t_model_order) 18 t_model_size) 20 t_model_sort) 22 t_model_start) 21 t_model_value) L (xy_s (xy_s S 15 1 t_model_lines) 15 2 t_model_used))))) (fun K => rfl) ?_
  obtain ⟨q1485, hq1485, h⟩ := Option.bind_eq_some_iff.mp h
  have heq1485 := xh_xt_refuseUnless (l := l) (g := g) ok (xy_a (xy_a (xy_a (xy_a (xy_a (xy_a (xy_a A 23 t_model_items) 16 t_model_number) 19 t_model_order) 18 t_model_size) 20 t_model_sort) 22 t_model_start) 21 t_model_value) L (xy_s (xy_s S 15 1 t_model_lines) 15 2 t_model_used) s0 _ hq1485
  rcases xb_sum h with ⟨r1486, hr1486, h⟩ | ⟨r1486, hr1486, h⟩
  · rw [hr1486] at heq1485
    refine xe_call0 (ws' := xw_W (xy_a (xy_a (xy_a (xy_a (xy_a (xy_a (xy_a A 23 t_model_items) 16 t_model_number) 19 t_model_order) 18 t_model_size) 20 t_model_sort) 22 t_model_start) 21 t_model_value) L (xy_s (xy_s S 15 1 t_model_lines) 15 2 t_model_used)) (by decide) heq1485 (Or.inl rfl) ?_
    refine xe_seg ok 5 (G := (fun K => xr_back K 11 xm_i11 xm_I11 3 18 40 [(0, .ref 2), (3, .int v3), (4, .int v4)] [] 78 true (K (120, xm_i120, xm_I120, 0, 0, 0, [(0, .ref 17), (1, .int v4), (2, .int v3)], [], xw_W (xy_a (xy_a (xy_a (xy_a (xy_a (xy_a (xy_a A 23 t_model_items) 16 t_model_number) 19 t_model_order) 18 t_model_size) 20 t_model_sort) 22 t_model_start) 21 t_model_value) L (xy_s (xy_s S 15 1 t_model_lines) 15 2 t_model_used))))) (fun K => rfl) ?_
    obtain ⟨q1487, hq1487, h⟩ := Option.bind_eq_some_iff.mp h
    have heq1487 := xh_md_itemAt_15 (l := l) (g := g) ok (xy_a (xy_a (xy_a (xy_a (xy_a (xy_a (xy_a A 23 t_model_items) 16 t_model_number) 19 t_model_order) 18 t_model_size) 20 t_model_sort) 22 t_model_start) 21 t_model_value) L (xy_s (xy_s S 15 1 t_model_lines) 15 2 t_model_used) t_model_items t_model_start t_model_used v4 v3 _ hq1487
    refine xe_call1 (ws' := xw_W (xy_a (xy_a (xy_a (xy_a (xy_a (xy_a (xy_a A 23 t_model_items) 16 t_model_number) 19 t_model_order) 18 t_model_size) 20 t_model_sort) 22 t_model_start) 21 t_model_value) L (xy_s (xy_s S 15 1 t_model_lines) 15 2 t_model_used)) (by decide) heq1487 (Or.inl rfl) ?_
    obtain rfl := Option.some.inj h
    refine xe_seg ok 1 (G := (fun _ => some (.inl (some (.int q1487)), xw_W (xy_a (xy_a (xy_a (xy_a (xy_a (xy_a (xy_a A 23 t_model_items) 16 t_model_number) 19 t_model_order) 18 t_model_size) 20 t_model_sort) 22 t_model_start) 21 t_model_value) L (xy_s (xy_s S 15 1 t_model_lines) 15 2 t_model_used)))) (fun K => rfl) ?_
    exact xe_ret
  · rw [hr1486] at heq1485
    obtain rfl := Option.some.inj h
    exact xe_thr (E := r1486) (ws' := xw_W (xy_a (xy_a (xy_a (xy_a (xy_a (xy_a (xy_a A 23 t_model_items) 16 t_model_number) 19 t_model_order) 18 t_model_size) 20 t_model_sort) 22 t_model_start) 21 t_model_value) L (xy_s (xy_s S 15 1 t_model_lines) 15 2 t_model_used)) heq1485 rfl rfl rfl
theorem xh_xt_item_0_29 {l : Launch} {g : xr_G} (ok : xr_OK xm_P) (A : Nat → Nat → Int32) (L : Nat → Nat → Int64) (S : Nat → Nat → Int32) (t_model_items : (Nat → Int32)) (t_model_lines : Int32) (t_model_number : (Nat → Int32)) (t_model_order : (Nat → Int32)) (t_model_size : (Nat → Int32)) (t_model_sort : (Nat → Int32)) (t_model_start : (Nat → Int32)) (t_model_used : Int32) (t_model_value : (Nat → Int32)) (n : Nat) : ∀ (v3 : Int32) (v4 : Int32) (r : ((Int32 ⊕ String))), xf_xt_item_29 t_model_items t_model_lines t_model_number t_model_order t_model_size t_model_sort t_model_start t_model_used t_model_value n v3 v4 = some r → xV xm_P l g (11, xm_i11, xm_I11, 2, 12, 29, [(0, .ref 2), (3, .int v3), (4, .int v4)], [], xw_W (xy_a (xy_a (xy_a (xy_a (xy_a (xy_a (xy_a A 23 t_model_items) 16 t_model_number) 19 t_model_order) 18 t_model_size) 20 t_model_sort) 22 t_model_start) 21 t_model_value) L (xy_s (xy_s S 15 1 t_model_lines) 15 2 t_model_used)) (xo_i r, xw_W (xy_a (xy_a (xy_a (xy_a (xy_a (xy_a (xy_a A 23 t_model_items) 16 t_model_number) 19 t_model_order) 18 t_model_size) 20 t_model_sort) 22 t_model_start) 21 t_model_value) L (xy_s (xy_s S 15 1 t_model_lines) 15 2 t_model_used)) := by
  intro v3 v4 r h
  unfold xf_xt_item_29 at h
  refine xe_seg ok 1 (G := (fun K => K (11, xm_i11, xm_I11, 2, 12, 30, [(0, .ref 2), (3, .int v3), (4, .int v4)], [.int ((0 : Int32))], xw_W (xy_a (xy_a (xy_a (xy_a (xy_a (xy_a (xy_a A 23 t_model_items) 16 t_model_number) 19 t_model_order) 18 t_model_size) 20 t_model_sort) 22 t_model_start) 21 t_model_value) L (xy_s (xy_s S 15 1 t_model_lines) 15 2 t_model_used)))) (fun K => rfl) ?_
  refine xe_k ?_
  refine xe_sub [true, true, true] (lv' := [(0, .ref 2), (3, .int v3), (4, .int v4)]) rfl ?_
  exact xh_xt_item_0_30 ok A L S t_model_items t_model_lines t_model_number t_model_order t_model_size t_model_sort t_model_start t_model_used t_model_value n v3 v4 ((0 : Int32)) _ h
theorem xh_xt_item_0 {l : Launch} {g : xr_G} (ok : xr_OK xm_P) (A : Nat → Nat → Int32) (L : Nat → Nat → Int64) (S : Nat → Nat → Int32) (t_model_items : (Nat → Int32)) (t_model_lines : Int32) (t_model_number : (Nat → Int32)) (t_model_order : (Nat → Int32)) (t_model_size : (Nat → Int32)) (t_model_sort : (Nat → Int32)) (t_model_start : (Nat → Int32)) (t_model_used : Int32) (t_model_value : (Nat → Int32)) (n : Nat) : ∀ (a1 : Int32) (a2 : Int32) (a3 : Int32) (r : ((Int32 ⊕ String))), xf_xt_item t_model_items t_model_lines t_model_number t_model_order t_model_size t_model_sort t_model_start t_model_used t_model_value n a1 a2 a3 = some r → xV xm_P l g (11, xm_i11, xm_I11, 0, 0, 0, [(0, .ref 2), (1, .int a1), (2, .int a2), (3, .int a3)], [], xw_W (xy_a (xy_a (xy_a (xy_a (xy_a (xy_a (xy_a A 23 t_model_items) 16 t_model_number) 19 t_model_order) 18 t_model_size) 20 t_model_sort) 22 t_model_start) 21 t_model_value) L (xy_s (xy_s S 15 1 t_model_lines) 15 2 t_model_used)) (xo_i r, xw_W (xy_a (xy_a (xy_a (xy_a (xy_a (xy_a (xy_a A 23 t_model_items) 16 t_model_number) 19 t_model_order) 18 t_model_size) 20 t_model_sort) 22 t_model_start) 21 t_model_value) L (xy_s (xy_s S 15 1 t_model_lines) 15 2 t_model_used)) := by
  intro a1 a2 a3 r h
  unfold xf_xt_item at h
  refine xe_seg ok 4 (G := (fun K => xr_back K 11 xm_i11 xm_I11 2 12 3 [(0, .ref 2), (1, .int a1), (2, .int a2), (3, .int a3)] [] 78 true (K (23, xm_i23, xm_I23, 0, 0, 0, [(0, .ref 2), (1, .int a1), (2, .int a2)], [], xw_W (xy_a (xy_a (xy_a (xy_a (xy_a (xy_a (xy_a A 23 t_model_items) 16 t_model_number) 19 t_model_order) 18 t_model_size) 20 t_model_sort) 22 t_model_start) 21 t_model_value) L (xy_s (xy_s S 15 1 t_model_lines) 15 2 t_model_used))))) (fun K => rfl) ?_
  obtain ⟨q1482, hq1482, h⟩ := Option.bind_eq_some_iff.mp h
  have heq1482 := xh_xt_spotOrRefuse_0 (l := l) (g := g) ok (xy_a (xy_a (xy_a (xy_a (xy_a (xy_a (xy_a A 23 t_model_items) 16 t_model_number) 19 t_model_order) 18 t_model_size) 20 t_model_sort) 22 t_model_start) 21 t_model_value) L (xy_s (xy_s S 15 1 t_model_lines) 15 2 t_model_used) t_model_lines t_model_number t_model_order t_model_size n a1 a2 _ hq1482
  rcases xb_sum h with ⟨r1483, hr1483, h⟩ | ⟨r1483, hr1483, h⟩
  · rw [hr1483] at heq1482
    refine xe_call1 (ws' := xw_W (xy_a (xy_a (xy_a (xy_a (xy_a (xy_a (xy_a A 23 t_model_items) 16 t_model_number) 19 t_model_order) 18 t_model_size) 20 t_model_sort) 22 t_model_start) 21 t_model_value) L (xy_s (xy_s S 15 1 t_model_lines) 15 2 t_model_used)) (by decide) heq1482 (Or.inl rfl) ?_
    refine xe_seg ok 3 (G := (fun K => if a3 < (0 : Int32) then K (11, xm_i11, xm_I11, 2, 12, 29, [(0, .ref 2), (1, .int a1), (2, .int a2), (3, .int a3), (4, .int r1483)], [], xw_W (xy_a (xy_a (xy_a (xy_a (xy_a (xy_a (xy_a A 23 t_model_items) 16 t_model_number) 19 t_model_order) 18 t_model_size) 20 t_model_sort) 22 t_model_start) 21 t_model_value) L (xy_s (xy_s S 15 1 t_model_lines) 15 2 t_model_used)) else K (11, xm_i11, xm_I11, 2, 12, 12, [(0, .ref 2), (1, .int a1), (2, .int a2), (3, .int a3), (4, .int r1483)], [], xw_W (xy_a (xy_a (xy_a (xy_a (xy_a (xy_a (xy_a A 23 t_model_items) 16 t_model_number) 19 t_model_order) 18 t_model_size) 20 t_model_sort) 22 t_model_start) 21 t_model_value) L (xy_s (xy_s S 15 1 t_model_lines) 15 2 t_model_used)))) (fun K => rfl) ?_
    rcases xb_if h with ⟨hc1484, h⟩ | ⟨hc1484, h⟩
    · refine xe_pos hc1484 (xe_k ?_)
      refine xe_sub [true, false, false, true, true] (lv' := [(0, .ref 2), (3, .int a3), (4, .int r1483)]) rfl ?_
      exact xh_xt_item_0_29 ok A L S t_model_items t_model_lines t_model_number t_model_order t_model_size t_model_sort t_model_start t_model_used t_model_value n a3 r1483 _ h
    · refine xe_neg hc1484 (xe_k ?_)
      refine xe_seg ok 5 (G := (fun K => xr_back K 11 xm_i11 xm_I11 2 12 19 [(0, .ref 2), (1, .int a1), (2, .int a2), (3, .int a3), (4, .int r1483)] [.int a3] 78 true (K (119, xm_i119, xm_I119, 0, 0, 0, [(0, .ref 17), (1, .int r1483)], [], xw_W (xy_a (xy_a (xy_a (xy_a (xy_a (xy_a (xy_a A 23 t_model_items) 16 t_model_number) 19 t_model_order) 18 t_model_size) 20 t_model_sort) 22 t_model_start) 21 t_model_value) L (xy_s (xy_s S 15 1 t_model_lines) 15 2 t_model_used))))) (fun K => rfl) ?_
      obtain ⟨q1488, hq1488, h⟩ := Option.bind_eq_some_iff.mp h
      have heq1488 := xh_md_itemsOf_15 (l := l) (g := g) ok (xy_a (xy_a (xy_a (xy_a (xy_a (xy_a (xy_a A 23 t_model_items) 16 t_model_number) 19 t_model_order) 18 t_model_size) 20 t_model_sort) 22 t_model_start) 21 t_model_value) L (xy_s (xy_s S 15 1 t_model_lines) 15 2 t_model_used) t_model_sort t_model_value r1483 _ hq1488
      refine xe_call1 (ws' := xw_W (xy_a (xy_a (xy_a (xy_a (xy_a (xy_a (xy_a A 23 t_model_items) 16 t_model_number) 19 t_model_order) 18 t_model_size) 20 t_model_sort) 22 t_model_start) 21 t_model_value) L (xy_s (xy_s S 15 1 t_model_lines) 15 2 t_model_used)) (by decide) heq1488 (Or.inl rfl) ?_
      refine xe_seg ok 1 (G := (fun K => if a3 < q1488 then K (11, xm_i11, xm_I11, 2, 12, 25, [(0, .ref 2), (1, .int a1), (2, .int a2), (3, .int a3), (4, .int r1483)], [], xw_W (xy_a (xy_a (xy_a (xy_a (xy_a (xy_a (xy_a A 23 t_model_items) 16 t_model_number) 19 t_model_order) 18 t_model_size) 20 t_model_sort) 22 t_model_start) 21 t_model_value) L (xy_s (xy_s S 15 1 t_model_lines) 15 2 t_model_used)) else K (11, xm_i11, xm_I11, 2, 12, 29, [(0, .ref 2), (1, .int a1), (2, .int a2), (3, .int a3), (4, .int r1483)], [], xw_W (xy_a (xy_a (xy_a (xy_a (xy_a (xy_a (xy_a A 23 t_model_items) 16 t_model_number) 19 t_model_order) 18 t_model_size) 20 t_model_sort) 22 t_model_start) 21 t_model_value) L (xy_s (xy_s S 15 1 t_model_lines) 15 2 t_model_used)))) (fun K => rfl) ?_
      rcases xb_if h with ⟨hc1489, h⟩ | ⟨hc1489, h⟩
      · refine xe_pos hc1489 (xe_k ?_)
        refine xe_seg ok 2 (G := (fun K => K (11, xm_i11, xm_I11, 2, 12, 30, [(0, .ref 2), (1, .int a1), (2, .int a2), (3, .int a3), (4, .int r1483)], [.int ((1 : Int32))], xw_W (xy_a (xy_a (xy_a (xy_a (xy_a (xy_a (xy_a A 23 t_model_items) 16 t_model_number) 19 t_model_order) 18 t_model_size) 20 t_model_sort) 22 t_model_start) 21 t_model_value) L (xy_s (xy_s S 15 1 t_model_lines) 15 2 t_model_used)))) (fun K => rfl) ?_
        refine xe_k ?_
        refine xe_sub [true, false, false, true, true] (lv' := [(0, .ref 2), (3, .int a3), (4, .int r1483)]) rfl ?_
        exact xh_xt_item_0_30 ok A L S t_model_items t_model_lines t_model_number t_model_order t_model_size t_model_sort t_model_start t_model_used t_model_value n a3 r1483 ((1 : Int32)) _ h
      · refine xe_neg hc1489 (xe_k ?_)
        refine xe_sub [true, false, false, true, true] (lv' := [(0, .ref 2), (3, .int a3), (4, .int r1483)]) rfl ?_
        exact xh_xt_item_0_29 ok A L S t_model_items t_model_lines t_model_number t_model_order t_model_size t_model_sort t_model_start t_model_used t_model_value n a3 r1483 _ h
  · rw [hr1483] at heq1482
    obtain rfl := Option.some.inj h
    exact xe_thr (E := r1483) (ws' := xw_W (xy_a (xy_a (xy_a (xy_a (xy_a (xy_a (xy_a A 23 t_model_items) 16 t_model_number) 19 t_model_order) 18 t_model_size) 20 t_model_sort) 22 t_model_start) 21 t_model_value) L (xy_s (xy_s S 15 1 t_model_lines) 15 2 t_model_used)) heq1482 rfl rfl rfl
