theorem xh_rf_keep_57 {l : Launch} {g : xr_G} (ok : xr_OK xm_P) (A : Nat → Nat → Int32) (L : Nat → Nat → Int64) (S : Nat → Nat → Int32) (n : Nat) : ∀ (t_items : (Nat → Int32)) (t_letters : (Nat → Int32)) (t_lines : (Nat → Int32)) (t_names : (Nat → Int32)) (t_numbers : (Nat → Int32)) (t_parts : (Nat → Int32)) (t_sorts : (Nat → Int32)) (t_thrown : Int32) (t_values : (Nat → Int32)) (r : (Int32 × (Nat → Int32) × (Nat → Int32) × (Nat → Int32) × (Nat → Int32) × (Nat → Int32) × (Nat → Int32) × (Nat → Int32) × Int32 × (Nat → Int32))), xf_rf_keep n t_items t_letters t_lines t_names t_numbers t_parts t_sorts t_thrown t_values = some r → xV xm_P l g (62, xm_i62, xm_I62, 0, 0, 0, [(0, .ref 59)], [], xw_W (xy_a (xy_a (xy_a (xy_a (xy_a (xy_a (xy_a (xy_a A 73 t_items) 68 t_letters) 66 t_lines) 69 t_names) 67 t_numbers) 70 t_parts) 71 t_sorts) 72 t_values) L (xy_s S 57 0 t_thrown)) (.inl (some (.int r.1)), xw_W (xy_a (xy_a (xy_a (xy_a (xy_a (xy_a (xy_a (xy_a A 73 r.2.1) 68 r.2.2.1) 66 r.2.2.2.1) 69 r.2.2.2.2.1) 67 r.2.2.2.2.2.1) 70 r.2.2.2.2.2.2.1) 71 r.2.2.2.2.2.2.2.1) 72 r.2.2.2.2.2.2.2.2.2) L (xy_s S 57 0 r.2.2.2.2.2.2.2.2.1)) := by
  intro t_items t_letters t_lines t_names t_numbers t_parts t_sorts t_thrown t_values r h
  unfold xf_rf_keep at h
  refine xe_seg ok 10 (G := (fun K => if xr_in ((0 : Int32)) 3 = true then K (62, xm_i62, xm_I62, 0, 0, 16, [(0, .ref 59)], [.int (t_lines ((0 : Int32)).toNatClampNeg), .int ((2 : Int32)), .ref 68], xw_W (xy_a (xy_a (xy_a (xy_a (xy_a (xy_a (xy_a (xy_a A 73 t_items) 68 t_letters) 66 t_lines) 69 t_names) 67 t_numbers) 70 t_parts) 71 t_sorts) 72 t_values) L (xy_s S 57 0 ((0 : Int32)))) else none)) (fun K => rfl) ?_
  obtain ⟨hg988, h⟩ := xn_if h
  refine xe_pos hg988 (xe_k ?_)
  refine xe_seg ok 1 (G := (fun K => if xr_in ((2 : Int32)) 3 = true then K (62, xm_i62, xm_I62, 0, 0, 17, [(0, .ref 59)], [], xw_W (xy_a (xy_a (xy_a (xy_a (xy_a (xy_a (xy_a (xy_a A 73 t_items) 68 t_letters) 66 (upd t_lines ((2 : Int32)).toNatClampNeg ((t_lines ((0 : Int32)).toNatClampNeg)))) 69 t_names) 67 t_numbers) 70 t_parts) 71 t_sorts) 72 t_values) L (xy_s S 57 0 ((0 : Int32)))) else none)) (fun K => rfl) ?_
  obtain ⟨hg989, h⟩ := xn_if h
  refine xe_pos hg989 (xe_k ?_)
  refine xe_seg ok 2 (G := (fun K => K (62, xm_i62, xm_I62, 0, 0, 19, [(0, .ref 59), (1, .int ((0 : Int32)))], [], xw_W (xy_a (xy_a (xy_a (xy_a (xy_a (xy_a (xy_a (xy_a A 73 t_items) 68 t_letters) 66 (upd t_lines ((2 : Int32)).toNatClampNeg ((t_lines ((0 : Int32)).toNatClampNeg)))) 69 t_names) 67 t_numbers) 70 t_parts) 71 t_sorts) 72 t_values) L (xy_s S 57 0 ((0 : Int32)))))) (fun K => rfl) ?_
  refine xe_k ?_
  refine xe_sub [true, true] (lv' := [(0, .ref 59), (1, .int ((0 : Int32)))]) rfl ?_
  exact xh_rf_keep_57_19 ok A L S n n t_items t_letters (upd t_lines ((2 : Int32)).toNatClampNeg ((t_lines ((0 : Int32)).toNatClampNeg))) t_names t_numbers t_parts t_sorts ((0 : Int32)) t_values ((0 : Int32)) _ h
theorem xh_rf_line_57_44 {l : Launch} {g : xr_G} (ok : xr_OK xm_P) (A : Nat → Nat → Int32) (L : Nat → Nat → Int64) (S : Nat → Nat → Int32) (t_lines : (Nat → Int32)) (t_numbers : (Nat → Int32)) : ∀ (t_thrown : Int32) (s0 : Int32) (r : (Int32 × Int32)), xf_rf_line_44 t_lines t_numbers t_thrown s0 = some r → xV xm_P l g (63, xm_i63, xm_I63, 0, 0, 44, [], [.int s0], xw_W (xy_a (xy_a A 66 t_lines) 67 t_numbers) L (xy_s S 57 0 t_thrown)) (.inl (some (.int r.1)), xw_W (xy_a (xy_a A 66 t_lines) 67 t_numbers) L (xy_s S 57 0 r.2)) := by
  intro t_thrown s0 r h
  unfold xf_rf_line_44 at h
  obtain rfl := Option.some.inj h
  refine xe_seg ok 1 (G := (fun _ => some (.inl (some (.int s0)), xw_W (xy_a (xy_a A 66 t_lines) 67 t_numbers) L (xy_s S 57 0 t_thrown)))) (fun K => rfl) ?_
  exact xe_ret
theorem xh_rf_line_57_15 {l : Launch} {g : xr_G} (ok : xr_OK xm_P) (A : Nat → Nat → Int32) (L : Nat → Nat → Int64) (S : Nat → Nat → Int32) (t_lines : (Nat → Int32)) (t_numbers : (Nat → Int32)) : ∀ (t_thrown : Int32) (v1 : Int32) (s1 : Int32) (r : (Int32 × Int32)), xf_rf_line_15 t_lines t_numbers t_thrown v1 s1 = some r → xV xm_P l g (63, xm_i63, xm_I63, 0, 0, 15, [(0, .ref 59), (1, .int v1)], [.int s1, .ref 59], xw_W (xy_a (xy_a A 66 t_lines) 67 t_numbers) L (xy_s S 57 0 t_thrown)) (.inl (some (.int r.1)), xw_W (xy_a (xy_a A 66 t_lines) 67 t_numbers) L (xy_s S 57 0 r.2)) := by
  intro t_thrown v1 s1 r h
  unfold xf_rf_line_15 at h
  refine xe_seg ok 2 (G := (fun K => xr_back K 63 xm_i63 xm_I63 0 0 16 [(0, .ref 59), (1, .int v1)] [] 78 true (K (32, xm_i32, xm_I32, 0, 0, 0, [(0, .ref 59), (1, .int s1), (2, .int ((1 : Int32)))], [], xw_W (xy_a (xy_a A 66 t_lines) 67 t_numbers) L (xy_s S 57 0 t_thrown))))) (fun K => rfl) ?_
  obtain ⟨q995, hq995, h⟩ := Option.bind_eq_some_iff.mp h
  have heq995 := xh_rf_fails_57 (l := l) (g := g) ok (xy_a (xy_a A 66 t_lines) 67 t_numbers) L (xy_s S 57 0 t_thrown) t_thrown s1 ((1 : Int32)) _ hq995
  refine xe_call1 (ws' := xw_W (xy_a (xy_a A 66 t_lines) 67 t_numbers) L (xy_s S 57 0 q995.2)) (by decide) heq995 (Or.inl rfl) ?_
  refine xe_seg ok 1 (G := (fun K => if q995.1 = (0 : Int32) then K (63, xm_i63, xm_I63, 0, 0, 24, [(0, .ref 59), (1, .int v1)], [], xw_W (xy_a (xy_a A 66 t_lines) 67 t_numbers) L (xy_s S 57 0 q995.2)) else K (63, xm_i63, xm_I63, 0, 0, 22, [(0, .ref 59), (1, .int v1)], [], xw_W (xy_a (xy_a A 66 t_lines) 67 t_numbers) L (xy_s S 57 0 q995.2)))) (fun K => rfl) ?_
  rcases xb_if h with ⟨hc996, h⟩ | ⟨hc996, h⟩
  · refine xe_pos hc996 (xe_k ?_)
    refine xe_seg ok 5 (G := (fun K => if xr_in ((0 : Int32)) 3 = true then K (63, xm_i63, xm_I63, 0, 0, 31, [(0, .ref 59), (1, .int v1)], [.int (t_lines ((0 : Int32)).toNatClampNeg), .int v1], xw_W (xy_a (xy_a A 66 t_lines) 67 t_numbers) L (xy_s S 57 0 q995.2)) else none)) (fun K => rfl) ?_
    obtain ⟨hg997, h⟩ := xn_if h
    refine xe_pos hg997 (xe_k ?_)
    refine xe_seg ok 1 (G := (fun K => if v1 < (t_lines ((0 : Int32)).toNatClampNeg) then K (63, xm_i63, xm_I63, 0, 0, 34, [(0, .ref 59), (1, .int v1)], [], xw_W (xy_a (xy_a A 66 t_lines) 67 t_numbers) L (xy_s S 57 0 q995.2)) else K (63, xm_i63, xm_I63, 0, 0, 43, [(0, .ref 59), (1, .int v1)], [], xw_W (xy_a (xy_a A 66 t_lines) 67 t_numbers) L (xy_s S 57 0 q995.2)))) (fun K => rfl) ?_
    rcases xb_if h with ⟨hc998, h⟩ | ⟨hc998, h⟩
    · refine xe_pos hc998 (xe_k ?_)
      refine xe_seg ok 4 (G := (fun K => if xr_in v1 120 = true then K (63, xm_i63, xm_I63, 0, 0, 40, [(0, .ref 59), (1, .int v1)], [.int (t_numbers v1.toNatClampNeg)], xw_W (xy_a (xy_a A 66 t_lines) 67 t_numbers) L (xy_s S 57 0 q995.2)) else none)) (fun K => rfl) ?_
      obtain ⟨hg999, h⟩ := xn_if h
      refine xe_pos hg999 (xe_k ?_)
      refine xe_seg ok 1 (G := (fun K => K (63, xm_i63, xm_I63, 0, 0, 44, [(0, .ref 59), (1, .int v1)], [.int (t_numbers v1.toNatClampNeg)], xw_W (xy_a (xy_a A 66 t_lines) 67 t_numbers) L (xy_s S 57 0 q995.2)))) (fun K => rfl) ?_
      refine xe_k ?_
      refine xe_sub [false, false] (lv' := []) rfl ?_
      exact xh_rf_line_57_44 ok A L S t_lines t_numbers q995.2 (t_numbers v1.toNatClampNeg) _ h
    · refine xe_neg hc998 (xe_k ?_)
      refine xe_seg ok 1 (G := (fun K => K (63, xm_i63, xm_I63, 0, 0, 44, [(0, .ref 59), (1, .int v1)], [.int ((-1 : Int32))], xw_W (xy_a (xy_a A 66 t_lines) 67 t_numbers) L (xy_s S 57 0 q995.2)))) (fun K => rfl) ?_
      refine xe_k ?_
      refine xe_sub [false, false] (lv' := []) rfl ?_
      exact xh_rf_line_57_44 ok A L S t_lines t_numbers q995.2 ((-1 : Int32)) _ h
  · refine xe_neg hc996 (xe_k ?_)
    obtain rfl := Option.some.inj h
    refine xe_seg ok 2 (G := (fun _ => some (.inl (some (.int ((0 : Int32)))), xw_W (xy_a (xy_a A 66 t_lines) 67 t_numbers) L (xy_s S 57 0 q995.2)))) (fun K => rfl) ?_
    exact xe_ret
theorem xh_rf_line_57 {l : Launch} {g : xr_G} (ok : xr_OK xm_P) (A : Nat → Nat → Int32) (L : Nat → Nat → Int64) (S : Nat → Nat → Int32) (t_lines : (Nat → Int32)) (t_numbers : (Nat → Int32)) : ∀ (t_thrown : Int32) (a1 : Int32) (r : (Int32 × Int32)), xf_rf_line t_lines t_numbers t_thrown a1 = some r → xV xm_P l g (63, xm_i63, xm_I63, 0, 0, 0, [(0, .ref 59), (1, .int a1)], [], xw_W (xy_a (xy_a A 66 t_lines) 67 t_numbers) L (xy_s S 57 0 t_thrown)) (.inl (some (.int r.1)), xw_W (xy_a (xy_a A 66 t_lines) 67 t_numbers) L (xy_s S 57 0 r.2)) := by
  intro t_thrown a1 r h
  unfold xf_rf_line at h
  refine xe_seg ok 6 (G := (fun K => if a1 < (0 : Int32) then K (63, xm_i63, xm_I63, 0, 0, 10, [(0, .ref 59), (1, .int a1)], [.ref 59], xw_W (xy_a (xy_a A 66 t_lines) 67 t_numbers) L (xy_s S 57 0 ((0 : Int32)))) else K (63, xm_i63, xm_I63, 0, 0, 14, [(0, .ref 59), (1, .int a1)], [.ref 59], xw_W (xy_a (xy_a A 66 t_lines) 67 t_numbers) L (xy_s S 57 0 ((0 : Int32)))))) (fun K => rfl) ?_
  rcases xb_if h with ⟨hc994, h⟩ | ⟨hc994, h⟩
  · refine xe_pos hc994 (xe_k ?_)
    refine xe_seg ok 2 (G := (fun K => K (63, xm_i63, xm_I63, 0, 0, 15, [(0, .ref 59), (1, .int a1)], [.int ((1 : Int32)), .ref 59], xw_W (xy_a (xy_a A 66 t_lines) 67 t_numbers) L (xy_s S 57 0 ((0 : Int32)))))) (fun K => rfl) ?_
    refine xe_k ?_
    refine xe_sub [true, true] (lv' := [(0, .ref 59), (1, .int a1)]) rfl ?_
    exact xh_rf_line_57_15 ok A L S t_lines t_numbers ((0 : Int32)) a1 ((1 : Int32)) _ h
  · refine xe_neg hc994 (xe_k ?_)
    refine xe_seg ok 1 (G := (fun K => K (63, xm_i63, xm_I63, 0, 0, 15, [(0, .ref 59), (1, .int a1)], [.int ((0 : Int32)), .ref 59], xw_W (xy_a (xy_a A 66 t_lines) 67 t_numbers) L (xy_s S 57 0 ((0 : Int32)))))) (fun K => rfl) ?_
    refine xe_k ?_
    refine xe_sub [true, true] (lv' := [(0, .ref 59), (1, .int a1)]) rfl ?_
    exact xh_rf_line_57_15 ok A L S t_lines t_numbers ((0 : Int32)) a1 ((0 : Int32)) _ h
theorem xh_rf_references_57_34 {l : Launch} {g : xr_G} (ok : xr_OK xm_P) (A : Nat → Nat → Int32) (L : Nat → Nat → Int64) (S : Nat → Nat → Int32) (t_sorts : (Nat → Int32)) (t_values : (Nat → Int32)) : ∀ (s0 : Int32) (r : (Int32)), xf_rf_references_34 t_sorts t_values s0 = some r → xV xm_P l g (65, xm_i65, xm_I65, 0, 0, 34, [], [.int s0], xw_W (xy_a (xy_a A 71 t_sorts) 72 t_values) L S) (.inl (some (.int r)), xw_W (xy_a (xy_a A 71 t_sorts) 72 t_values) L S) := by
  intro s0 r h
  unfold xf_rf_references_34 at h
  obtain rfl := Option.some.inj h
  refine xe_seg ok 1 (G := (fun _ => some (.inl (some (.int s0)), xw_W (xy_a (xy_a A 71 t_sorts) 72 t_values) L S))) (fun K => rfl) ?_
  exact xe_ret
theorem xh_rf_references_57 {l : Launch} {g : xr_G} (ok : xr_OK xm_P) (A : Nat → Nat → Int32) (L : Nat → Nat → Int64) (S : Nat → Nat → Int32) (t_sorts : (Nat → Int32)) (t_values : (Nat → Int32)) : ∀ (a1 : Int32) (r : (Int32)), xf_rf_references t_sorts t_values a1 = some r → xV xm_P l g (65, xm_i65, xm_I65, 0, 0, 0, [(0, .ref 59), (1, .int a1)], [], xw_W (xy_a (xy_a A 71 t_sorts) 72 t_values) L S) (.inl (some (.int r)), xw_W (xy_a (xy_a A 71 t_sorts) 72 t_values) L S) := by
  intro a1 r h
  unfold xf_rf_references at h
  refine xe_seg ok 4 (G := (fun K => if xr_in a1 960 = true then K (65, xm_i65, xm_I65, 0, 0, 6, [(0, .ref 59), (1, .int a1)], [.int (t_sorts a1.toNatClampNeg)], xw_W (xy_a (xy_a A 71 t_sorts) 72 t_values) L S) else none)) (fun K => rfl) ?_
  obtain ⟨hg1009, h⟩ := xn_if h
  refine xe_pos hg1009 (xe_k ?_)
  refine xe_seg ok 2 (G := (fun K => if (t_sorts a1.toNatClampNeg) = ((2 : Int32)) then K (65, xm_i65, xm_I65, 0, 0, 10, [(0, .ref 59), (1, .int a1)], [], xw_W (xy_a (xy_a A 71 t_sorts) 72 t_values) L S) else K (65, xm_i65, xm_I65, 0, 0, 14, [(0, .ref 59), (1, .int a1)], [], xw_W (xy_a (xy_a A 71 t_sorts) 72 t_values) L S))) (fun K => rfl) ?_
  rcases xb_if h with ⟨hc1010, h⟩ | ⟨hc1010, h⟩
  · refine xe_pos hc1010 (xe_k ?_)
    refine xe_seg ok 2 (G := (fun K => K (65, xm_i65, xm_I65, 0, 0, 34, [(0, .ref 59), (1, .int a1)], [.int ((1 : Int32))], xw_W (xy_a (xy_a A 71 t_sorts) 72 t_values) L S))) (fun K => rfl) ?_
    refine xe_k ?_
    refine xe_sub [false, false] (lv' := []) rfl ?_
    exact xh_rf_references_57_34 ok A L S t_sorts t_values ((1 : Int32)) _ h
  · refine xe_neg hc1010 (xe_k ?_)
    refine xe_seg ok 4 (G := (fun K => if xr_in a1 960 = true then K (65, xm_i65, xm_I65, 0, 0, 20, [(0, .ref 59), (1, .int a1)], [.int (t_sorts a1.toNatClampNeg)], xw_W (xy_a (xy_a A 71 t_sorts) 72 t_values) L S) else none)) (fun K => rfl) ?_
    obtain ⟨hg1011, h⟩ := xn_if h
    refine xe_pos hg1011 (xe_k ?_)
    refine xe_seg ok 2 (G := (fun K => if (t_sorts a1.toNatClampNeg) = ((4 : Int32)) then K (65, xm_i65, xm_I65, 0, 0, 24, [(0, .ref 59), (1, .int a1)], [], xw_W (xy_a (xy_a A 71 t_sorts) 72 t_values) L S) else K (65, xm_i65, xm_I65, 0, 0, 33, [(0, .ref 59), (1, .int a1)], [], xw_W (xy_a (xy_a A 71 t_sorts) 72 t_values) L S))) (fun K => rfl) ?_
    rcases xb_if h with ⟨hc1012, h⟩ | ⟨hc1012, h⟩
    · refine xe_pos hc1012 (xe_k ?_)
      refine xe_seg ok 4 (G := (fun K => if xr_in a1 960 = true then K (65, xm_i65, xm_I65, 0, 0, 30, [(0, .ref 59), (1, .int a1)], [.int (t_values a1.toNatClampNeg)], xw_W (xy_a (xy_a A 71 t_sorts) 72 t_values) L S) else none)) (fun K => rfl) ?_
      obtain ⟨hg1013, h⟩ := xn_if h
      refine xe_pos hg1013 (xe_k ?_)
      refine xe_seg ok 1 (G := (fun K => K (65, xm_i65, xm_I65, 0, 0, 34, [(0, .ref 59), (1, .int a1)], [.int (t_values a1.toNatClampNeg)], xw_W (xy_a (xy_a A 71 t_sorts) 72 t_values) L S))) (fun K => rfl) ?_
      refine xe_k ?_
      refine xe_sub [false, false] (lv' := []) rfl ?_
      exact xh_rf_references_57_34 ok A L S t_sorts t_values (t_values a1.toNatClampNeg) _ h
    · refine xe_neg hc1012 (xe_k ?_)
      refine xe_seg ok 1 (G := (fun K => K (65, xm_i65, xm_I65, 0, 0, 34, [(0, .ref 59), (1, .int a1)], [.int ((0 : Int32))], xw_W (xy_a (xy_a A 71 t_sorts) 72 t_values) L S))) (fun K => rfl) ?_
      refine xe_k ?_
      refine xe_sub [false, false] (lv' := []) rfl ?_
      exact xh_rf_references_57_34 ok A L S t_sorts t_values ((0 : Int32)) _ h
theorem xh_rf_referred_57_32 {l : Launch} {g : xr_G} (ok : xr_OK xm_P) (A : Nat → Nat → Int32) (L : Nat → Nat → Int64) (S : Nat → Nat → Int32) (t_items : (Nat → Int32)) (t_lines : (Nat → Int32)) (t_numbers : (Nat → Int32)) (t_sorts : (Nat → Int32)) (t_values : (Nat → Int32)) (n : Nat) : ∀ (s1 : Int32) (s2 : Int32) (r : (Int32)), xf_rf_referred_32 t_items t_lines t_numbers t_sorts t_values n s1 s2 = some r → xV xm_P l g (66, xm_i66, xm_I66, 0, 0, 32, [], [.int s2, .int s1, .ref 59], xw_W (xy_a (xy_a (xy_a (xy_a (xy_a A 73 t_items) 66 t_lines) 67 t_numbers) 71 t_sorts) 72 t_values) L S) (.inl (some (.int r)), xw_W (xy_a (xy_a (xy_a (xy_a (xy_a A 73 t_items) 66 t_lines) 67 t_numbers) 71 t_sorts) 72 t_values) L S) := by
  intro s1 s2 r h
  unfold xf_rf_referred_32 at h
  refine xe_seg ok 1 (G := (fun K => xr_back K 66 xm_i66 xm_I66 0 0 32 [] [] 78 true (K (50, xm_i50, xm_I50, 0, 0, 0, [(0, .ref 59), (1, .int s1), (2, .int s2)], [], xw_W (xy_a (xy_a (xy_a (xy_a (xy_a A 73 t_items) 66 t_lines) 67 t_numbers) 71 t_sorts) 72 t_values) L S)))) (fun K => rfl) ?_
  obtain ⟨q1020, hq1020, h⟩ := Option.bind_eq_some_iff.mp h
  have heq1020 := xh_rf_find_57 (l := l) (g := g) ok (xy_a (xy_a (xy_a (xy_a (xy_a A 73 t_items) 66 t_lines) 67 t_numbers) 71 t_sorts) 72 t_values) L S t_lines t_numbers n s1 s2 _ hq1020
  refine xe_call1 (ws' := xw_W (xy_a (xy_a (xy_a (xy_a (xy_a A 73 t_items) 66 t_lines) 67 t_numbers) 71 t_sorts) 72 t_values) L S) (by decide) heq1020 (Or.inl rfl) ?_
  obtain rfl := Option.some.inj h
  refine xe_seg ok 1 (G := (fun _ => some (.inl (some (.int q1020)), xw_W (xy_a (xy_a (xy_a (xy_a (xy_a A 73 t_items) 66 t_lines) 67 t_numbers) 71 t_sorts) 72 t_values) L S))) (fun K => rfl) ?_
  exact xe_ret
theorem xh_rf_referred_57 {l : Launch} {g : xr_G} (ok : xr_OK xm_P) (A : Nat → Nat → Int32) (L : Nat → Nat → Int64) (S : Nat → Nat → Int32) (t_items : (Nat → Int32)) (t_lines : (Nat → Int32)) (t_numbers : (Nat → Int32)) (t_sorts : (Nat → Int32)) (t_values : (Nat → Int32)) (n : Nat) : ∀ (a1 : Int32) (a2 : Int32) (r : (Int32)), xf_rf_referred t_items t_lines t_numbers t_sorts t_values n a1 a2 = some r → xV xm_P l g (66, xm_i66, xm_I66, 0, 0, 0, [(0, .ref 59), (1, .int a1), (2, .int a2)], [], xw_W (xy_a (xy_a (xy_a (xy_a (xy_a A 73 t_items) 66 t_lines) 67 t_numbers) 71 t_sorts) 72 t_values) L S) (.inl (some (.int r)), xw_W (xy_a (xy_a (xy_a (xy_a (xy_a A 73 t_items) 66 t_lines) 67 t_numbers) 71 t_sorts) 72 t_values) L S) := by
  intro a1 a2 r h
  unfold xf_rf_referred at h
  refine xe_seg ok 6 (G := (fun K => if xr_in a1 960 = true then K (66, xm_i66, xm_I66, 0, 0, 8, [(0, .ref 59), (1, .int a1), (2, .int a2)], [.int (t_sorts a1.toNatClampNeg), .int ((0 : Int32)), .ref 59], xw_W (xy_a (xy_a (xy_a (xy_a (xy_a A 73 t_items) 66 t_lines) 67 t_numbers) 71 t_sorts) 72 t_values) L S) else none)) (fun K => rfl) ?_
  obtain ⟨hg1017, h⟩ := xn_if h
  refine xe_pos hg1017 (xe_k ?_)
  refine xe_seg ok 2 (G := (fun K => if (t_sorts a1.toNatClampNeg) = ((2 : Int32)) then K (66, xm_i66, xm_I66, 0, 0, 12, [(0, .ref 59), (1, .int a1), (2, .int a2)], [.int ((0 : Int32)), .ref 59], xw_W (xy_a (xy_a (xy_a (xy_a (xy_a A 73 t_items) 66 t_lines) 67 t_numbers) 71 t_sorts) 72 t_values) L S) else K (66, xm_i66, xm_I66, 0, 0, 21, [(0, .ref 59), (1, .int a1), (2, .int a2)], [.int ((0 : Int32)), .ref 59], xw_W (xy_a (xy_a (xy_a (xy_a (xy_a A 73 t_items) 66 t_lines) 67 t_numbers) 71 t_sorts) 72 t_values) L S))) (fun K => rfl) ?_
  rcases xb_if h with ⟨hc1018, h⟩ | ⟨hc1018, h⟩
  · refine xe_pos hc1018 (xe_k ?_)
    refine xe_seg ok 4 (G := (fun K => if xr_in a1 960 = true then K (66, xm_i66, xm_I66, 0, 0, 18, [(0, .ref 59), (1, .int a1), (2, .int a2)], [.int (t_values a1.toNatClampNeg), .int ((0 : Int32)), .ref 59], xw_W (xy_a (xy_a (xy_a (xy_a (xy_a A 73 t_items) 66 t_lines) 67 t_numbers) 71 t_sorts) 72 t_values) L S) else none)) (fun K => rfl) ?_
    obtain ⟨hg1019, h⟩ := xn_if h
    refine xe_pos hg1019 (xe_k ?_)
    refine xe_seg ok 1 (G := (fun K => K (66, xm_i66, xm_I66, 0, 0, 32, [(0, .ref 59), (1, .int a1), (2, .int a2)], [.int (t_values a1.toNatClampNeg), .int ((0 : Int32)), .ref 59], xw_W (xy_a (xy_a (xy_a (xy_a (xy_a A 73 t_items) 66 t_lines) 67 t_numbers) 71 t_sorts) 72 t_values) L S))) (fun K => rfl) ?_
    refine xe_k ?_
    refine xe_sub [false, false, false] (lv' := []) rfl ?_
    exact xh_rf_referred_57_32 ok A L S t_items t_lines t_numbers t_sorts t_values n ((0 : Int32)) (t_values a1.toNatClampNeg) _ h
  · refine xe_neg hc1018 (xe_k ?_)
    refine xe_seg ok 8 (G := (fun K => if xr_in ((((20 : Int32)) * a1) + a2) 19200 = true then K (66, xm_i66, xm_I66, 0, 0, 32, [(0, .ref 59), (1, .int a1), (2, .int a2)], [.int (t_items ((((20 : Int32)) * a1) + a2).toNatClampNeg), .int ((0 : Int32)), .ref 59], xw_W (xy_a (xy_a (xy_a (xy_a (xy_a A 73 t_items) 66 t_lines) 67 t_numbers) 71 t_sorts) 72 t_values) L S) else none)) (fun K => rfl) ?_
    obtain ⟨hg1021, h⟩ := xn_if h
    refine xe_pos hg1021 (xe_k ?_)
    refine xe_sub [false, false, false] (lv' := []) rfl ?_
    exact xh_rf_referred_57_32 ok A L S t_items t_lines t_numbers t_sorts t_values n ((0 : Int32)) (t_items ((((20 : Int32)) * a1) + a2).toNatClampNeg) _ h
theorem xh_rf_findWays_57_41 {l : Launch} {g : xr_G} (ok : xr_OK xm_P) (A : Nat → Nat → Int32) (L : Nat → Nat → Int64) (S : Nat → Nat → Int32) (t_items : (Nat → Int32)) (t_lines : (Nat → Int32)) (t_numbers : (Nat → Int32)) (t_parts : (Nat → Int32)) (t_sorts : (Nat → Int32)) (t_values : (Nat → Int32)) {k2 : (Nat → Int64) → Int32 → Option (Unit × (Nat → Int64))} (hk2 : ∀ (t_ways : (Nat → Int64)) (v1 : Int32) (r : (Unit × (Nat → Int64))), k2 t_ways v1 = some r → xV xm_P l g (68, xm_i68, xm_I68, 0, 0, 2, [(0, .ref 59), (1, .int v1)], [], xw_W (xy_a (xy_a (xy_a (xy_a (xy_a (xy_a A 73 t_items) 66 t_lines) 67 t_numbers) 70 t_parts) 71 t_sorts) 72 t_values) (xy_l L 76 t_ways) S) (.inl none, xw_W (xy_a (xy_a (xy_a (xy_a (xy_a (xy_a A 73 t_items) 66 t_lines) 67 t_numbers) 70 t_parts) 71 t_sorts) 72 t_values) (xy_l L 76 r.2) S)) {k24 : (Nat → Int64) → Int32 → Int32 → Option (Unit × (Nat → Int64))} (hk24 : ∀ (t_ways : (Nat → Int64)) (v1 : Int32) (v2 : Int32) (r : (Unit × (Nat → Int64))), k24 t_ways v1 v2 = some r → xV xm_P l g (68, xm_i68, xm_I68, 0, 0, 24, [(0, .ref 59), (1, .int v1), (2, .int v2)], [], xw_W (xy_a (xy_a (xy_a (xy_a (xy_a (xy_a A 73 t_items) 66 t_lines) 67 t_numbers) 70 t_parts) 71 t_sorts) 72 t_values) (xy_l L 76 t_ways) S) (.inl none, xw_W (xy_a (xy_a (xy_a (xy_a (xy_a (xy_a A 73 t_items) 66 t_lines) 67 t_numbers) 70 t_parts) 71 t_sorts) 72 t_values) (xy_l L 76 r.2) S)) (n : Nat) : ∀ (N : Nat) (t_ways : (Nat → Int64)) (v1 : Int32) (v2 : Int32) (v3 : Int32) (r : (Unit × (Nat → Int64))), xf_rf_findWays_41 t_items t_lines t_numbers t_parts t_sorts t_values k2 k24 n N t_ways v1 v2 v3 = some r → xV xm_P l g (68, xm_i68, xm_I68, 0, 0, 41, [(0, .ref 59), (1, .int v1), (2, .int v2), (3, .int v3)], [], xw_W (xy_a (xy_a (xy_a (xy_a (xy_a (xy_a A 73 t_items) 66 t_lines) 67 t_numbers) 70 t_parts) 71 t_sorts) 72 t_values) (xy_l L 76 t_ways) S) (.inl none, xw_W (xy_a (xy_a (xy_a (xy_a (xy_a (xy_a A 73 t_items) 66 t_lines) 67 t_numbers) 70 t_parts) 71 t_sorts) 72 t_values) (xy_l L 76 r.2) S) := by
  intro N
  induction N with
  | zero => intro t_ways v1 v2 v3 r h; cases h
  | succ N hk41 =>
    intro t_ways v1 v2 v3 r h
    refine xe_seg ok 4 (G := (fun K => xr_back K 68 xm_i68 xm_I68 0 0 44 [(0, .ref 59), (1, .int v1), (2, .int v2), (3, .int v3)] [.int v3] 78 true (K (65, xm_i65, xm_I65, 0, 0, 0, [(0, .ref 59), (1, .int v2)], [], xw_W (xy_a (xy_a (xy_a (xy_a (xy_a (xy_a A 73 t_items) 66 t_lines) 67 t_numbers) 70 t_parts) 71 t_sorts) 72 t_values) (xy_l L 76 t_ways) S)))) (fun K => rfl) ?_
    obtain ⟨q1014, hq1014, h⟩ := Option.bind_eq_some_iff.mp h
    have heq1014 := xh_rf_references_57 (l := l) (g := g) ok (xy_a (xy_a (xy_a (xy_a (xy_a (xy_a A 73 t_items) 66 t_lines) 67 t_numbers) 70 t_parts) 71 t_sorts) 72 t_values) (xy_l L 76 t_ways) S t_sorts t_values v2 _ hq1014
    refine xe_call1 (ws' := xw_W (xy_a (xy_a (xy_a (xy_a (xy_a (xy_a A 73 t_items) 66 t_lines) 67 t_numbers) 70 t_parts) 71 t_sorts) 72 t_values) (xy_l L 76 t_ways) S) (by decide) heq1014 (Or.inl rfl) ?_
    refine xe_seg ok 1 (G := (fun K => if v3 < q1014 then K (68, xm_i68, xm_I68, 0, 0, 50, [(0, .ref 59), (1, .int v1), (2, .int v2), (3, .int v3)], [], xw_W (xy_a (xy_a (xy_a (xy_a (xy_a (xy_a A 73 t_items) 66 t_lines) 67 t_numbers) 70 t_parts) 71 t_sorts) 72 t_values) (xy_l L 76 t_ways) S) else K (68, xm_i68, xm_I68, 0, 0, 73, [(0, .ref 59), (1, .int v1), (2, .int v2), (3, .int v3)], [], xw_W (xy_a (xy_a (xy_a (xy_a (xy_a (xy_a A 73 t_items) 66 t_lines) 67 t_numbers) 70 t_parts) 71 t_sorts) 72 t_values) (xy_l L 76 t_ways) S))) (fun K => rfl) ?_
    rcases xb_if h with ⟨hc1015, h⟩ | ⟨hc1015, h⟩
    · refine xe_pos hc1015 (xe_k ?_)
      refine xe_seg ok 5 (G := (fun K => if xr_in v1 40 = true then K (68, xm_i68, xm_I68, 0, 0, 57, [(0, .ref 59), (1, .int v1), (2, .int v2), (3, .int v3)], [.long (t_ways v1.toNatClampNeg), .int v1, .ref 78], xw_W (xy_a (xy_a (xy_a (xy_a (xy_a (xy_a A 73 t_items) 66 t_lines) 67 t_numbers) 70 t_parts) 71 t_sorts) 72 t_values) (xy_l L 76 t_ways) S) else none)) (fun K => rfl) ?_
      obtain ⟨hg1016, h⟩ := xn_if h
      refine xe_pos hg1016 (xe_k ?_)
      refine xe_seg ok 5 (G := (fun K => xr_back K 68 xm_i68 xm_I68 0 0 61 [(0, .ref 59), (1, .int v1), (2, .int v2), (3, .int v3)] [.long ((1 : Int64)), .long (t_ways v1.toNatClampNeg), .int v1, .ref 78] 78 true (K (66, xm_i66, xm_I66, 0, 0, 0, [(0, .ref 59), (1, .int v2), (2, .int v3)], [], xw_W (xy_a (xy_a (xy_a (xy_a (xy_a (xy_a A 73 t_items) 66 t_lines) 67 t_numbers) 70 t_parts) 71 t_sorts) 72 t_values) (xy_l L 76 t_ways) S)))) (fun K => rfl) ?_
      obtain ⟨q1022, hq1022, h⟩ := Option.bind_eq_some_iff.mp h
      have heq1022 := xh_rf_referred_57 (l := l) (g := g) ok (xy_a (xy_a (xy_a (xy_a (xy_a (xy_a A 73 t_items) 66 t_lines) 67 t_numbers) 70 t_parts) 71 t_sorts) 72 t_values) (xy_l L 76 t_ways) S t_items t_lines t_numbers t_sorts t_values n v2 v3 _ hq1022
      refine xe_call1 (ws' := xw_W (xy_a (xy_a (xy_a (xy_a (xy_a (xy_a A 73 t_items) 66 t_lines) 67 t_numbers) 70 t_parts) 71 t_sorts) 72 t_values) (xy_l L 76 t_ways) S) (by decide) heq1022 (Or.inl rfl) ?_
      refine xe_seg ok 3 (G := (fun K => if xr_in v1 40 = true then K (68, xm_i68, xm_I68, 0, 0, 67, [(0, .ref 59), (1, .int v1), (2, .int v2), (3, .int v3)], [], xw_W (xy_a (xy_a (xy_a (xy_a (xy_a (xy_a A 73 t_items) 66 t_lines) 67 t_numbers) 70 t_parts) 71 t_sorts) 72 t_values) (xy_l L 76 (vp_updL t_ways v1.toNatClampNeg (((t_ways v1.toNatClampNeg) ||| (xe_shl ((1 : Int64)) q1022))))) S) else none)) (fun K => rfl) ?_
      obtain ⟨hg1023, h⟩ := xn_if h
      refine xe_pos hg1023 (xe_k ?_)
      refine xe_seg ok 2 (G := (fun K => K (68, xm_i68, xm_I68, 0, 0, 41, [(0, .ref 59), (1, .int v1), (2, .int v2), (3, .int (v3 + (1 : Int32)))], [], xw_W (xy_a (xy_a (xy_a (xy_a (xy_a (xy_a A 73 t_items) 66 t_lines) 67 t_numbers) 70 t_parts) 71 t_sorts) 72 t_values) (xy_l L 76 (vp_updL t_ways v1.toNatClampNeg (((t_ways v1.toNatClampNeg) ||| (xe_shl ((1 : Int64)) q1022))))) S))) (fun K => rfl) ?_
      refine xe_k ?_
      refine xe_sub [true, true, true, true] (lv' := [(0, .ref 59), (1, .int v1), (2, .int v2), (3, .int (v3 + (1 : Int32)))]) rfl ?_
      exact hk41 (vp_updL t_ways v1.toNatClampNeg (((t_ways v1.toNatClampNeg) ||| (xe_shl ((1 : Int64)) q1022)))) v1 v2 (v3 + (1 : Int32)) _ h
    · refine xe_neg hc1015 (xe_k ?_)
      refine xe_seg ok 2 (G := (fun K => K (68, xm_i68, xm_I68, 0, 0, 24, [(0, .ref 59), (1, .int v1), (2, .int (v2 + (1 : Int32))), (3, .int v3)], [], xw_W (xy_a (xy_a (xy_a (xy_a (xy_a (xy_a A 73 t_items) 66 t_lines) 67 t_numbers) 70 t_parts) 71 t_sorts) 72 t_values) (xy_l L 76 t_ways) S))) (fun K => rfl) ?_
      refine xe_k ?_
      refine xe_sub [true, true, true, false] (lv' := [(0, .ref 59), (1, .int v1), (2, .int (v2 + (1 : Int32)))]) rfl ?_
      exact hk24 t_ways v1 (v2 + (1 : Int32)) _ h
theorem xh_rf_findWays_57_24 {l : Launch} {g : xr_G} (ok : xr_OK xm_P) (A : Nat → Nat → Int32) (L : Nat → Nat → Int64) (S : Nat → Nat → Int32) (t_items : (Nat → Int32)) (t_lines : (Nat → Int32)) (t_numbers : (Nat → Int32)) (t_parts : (Nat → Int32)) (t_sorts : (Nat → Int32)) (t_values : (Nat → Int32)) {k2 : (Nat → Int64) → Int32 → Option (Unit × (Nat → Int64))} (hk2 : ∀ (t_ways : (Nat → Int64)) (v1 : Int32) (r : (Unit × (Nat → Int64))), k2 t_ways v1 = some r → xV xm_P l g (68, xm_i68, xm_I68, 0, 0, 2, [(0, .ref 59), (1, .int v1)], [], xw_W (xy_a (xy_a (xy_a (xy_a (xy_a (xy_a A 73 t_items) 66 t_lines) 67 t_numbers) 70 t_parts) 71 t_sorts) 72 t_values) (xy_l L 76 t_ways) S) (.inl none, xw_W (xy_a (xy_a (xy_a (xy_a (xy_a (xy_a A 73 t_items) 66 t_lines) 67 t_numbers) 70 t_parts) 71 t_sorts) 72 t_values) (xy_l L 76 r.2) S)) (n : Nat) : ∀ (N : Nat) (t_ways : (Nat → Int64)) (v1 : Int32) (v2 : Int32) (r : (Unit × (Nat → Int64))), xf_rf_findWays_24 t_items t_lines t_numbers t_parts t_sorts t_values k2 n N t_ways v1 v2 = some r → xV xm_P l g (68, xm_i68, xm_I68, 0, 0, 24, [(0, .ref 59), (1, .int v1), (2, .int v2)], [], xw_W (xy_a (xy_a (xy_a (xy_a (xy_a (xy_a A 73 t_items) 66 t_lines) 67 t_numbers) 70 t_parts) 71 t_sorts) 72 t_values) (xy_l L 76 t_ways) S) (.inl none, xw_W (xy_a (xy_a (xy_a (xy_a (xy_a (xy_a A 73 t_items) 66 t_lines) 67 t_numbers) 70 t_parts) 71 t_sorts) 72 t_values) (xy_l L 76 r.2) S) := by
  intro N
  induction N with
  | zero => intro t_ways v1 v2 r h; cases h
  | succ N hk24 =>
    intro t_ways v1 v2 r h
    refine xe_seg ok 8 (G := (fun K => if xr_in v1 120 = true then K (68, xm_i68, xm_I68, 0, 0, 35, [(0, .ref 59), (1, .int v1), (2, .int v2)], [.int (t_parts v1.toNatClampNeg), .int (((8 : Int32)) * v1), .int v2], xw_W (xy_a (xy_a (xy_a (xy_a (xy_a (xy_a A 73 t_items) 66 t_lines) 67 t_numbers) 70 t_parts) 71 t_sorts) 72 t_values) (xy_l L 76 t_ways) S) else none)) (fun K => rfl) ?_
    obtain ⟨hg1007, h⟩ := xn_if h
    refine xe_pos hg1007 (xe_k ?_)
    refine xe_seg ok 2 (G := (fun K => if v2 < ((((8 : Int32)) * v1) + (t_parts v1.toNatClampNeg)) then K (68, xm_i68, xm_I68, 0, 0, 39, [(0, .ref 59), (1, .int v1), (2, .int v2)], [], xw_W (xy_a (xy_a (xy_a (xy_a (xy_a (xy_a A 73 t_items) 66 t_lines) 67 t_numbers) 70 t_parts) 71 t_sorts) 72 t_values) (xy_l L 76 t_ways) S) else K (68, xm_i68, xm_I68, 0, 0, 79, [(0, .ref 59), (1, .int v1), (2, .int v2)], [], xw_W (xy_a (xy_a (xy_a (xy_a (xy_a (xy_a A 73 t_items) 66 t_lines) 67 t_numbers) 70 t_parts) 71 t_sorts) 72 t_values) (xy_l L 76 t_ways) S))) (fun K => rfl) ?_
    rcases xb_if h with ⟨hc1008, h⟩ | ⟨hc1008, h⟩
    · refine xe_pos hc1008 (xe_k ?_)
      refine xe_seg ok 2 (G := (fun K => K (68, xm_i68, xm_I68, 0, 0, 41, [(0, .ref 59), (1, .int v1), (2, .int v2), (3, .int ((0 : Int32)))], [], xw_W (xy_a (xy_a (xy_a (xy_a (xy_a (xy_a A 73 t_items) 66 t_lines) 67 t_numbers) 70 t_parts) 71 t_sorts) 72 t_values) (xy_l L 76 t_ways) S))) (fun K => rfl) ?_
      refine xe_k ?_
      refine xe_sub [true, true, true, true] (lv' := [(0, .ref 59), (1, .int v1), (2, .int v2), (3, .int ((0 : Int32)))]) rfl ?_
      exact xh_rf_findWays_57_41 ok A L S t_items t_lines t_numbers t_parts t_sorts t_values hk2 hk24 n n t_ways v1 v2 ((0 : Int32)) _ h
    · refine xe_neg hc1008 (xe_k ?_)
      refine xe_seg ok 2 (G := (fun K => K (68, xm_i68, xm_I68, 0, 0, 2, [(0, .ref 59), (1, .int (v1 + (1 : Int32))), (2, .int v2)], [], xw_W (xy_a (xy_a (xy_a (xy_a (xy_a (xy_a A 73 t_items) 66 t_lines) 67 t_numbers) 70 t_parts) 71 t_sorts) 72 t_values) (xy_l L 76 t_ways) S))) (fun K => rfl) ?_
      refine xe_k ?_
      refine xe_sub [true, true, false] (lv' := [(0, .ref 59), (1, .int (v1 + (1 : Int32)))]) rfl ?_
      exact hk2 t_ways (v1 + (1 : Int32)) _ h
theorem xh_rf_findWays_57_2 {l : Launch} {g : xr_G} (ok : xr_OK xm_P) (A : Nat → Nat → Int32) (L : Nat → Nat → Int64) (S : Nat → Nat → Int32) (t_items : (Nat → Int32)) (t_lines : (Nat → Int32)) (t_numbers : (Nat → Int32)) (t_parts : (Nat → Int32)) (t_sorts : (Nat → Int32)) (t_values : (Nat → Int32)) (n : Nat) : ∀ (N : Nat) (t_ways : (Nat → Int64)) (v1 : Int32) (r : (Unit × (Nat → Int64))), xf_rf_findWays_2 t_items t_lines t_numbers t_parts t_sorts t_values n N t_ways v1 = some r → xV xm_P l g (68, xm_i68, xm_I68, 0, 0, 2, [(0, .ref 59), (1, .int v1)], [], xw_W (xy_a (xy_a (xy_a (xy_a (xy_a (xy_a A 73 t_items) 66 t_lines) 67 t_numbers) 70 t_parts) 71 t_sorts) 72 t_values) (xy_l L 76 t_ways) S) (.inl none, xw_W (xy_a (xy_a (xy_a (xy_a (xy_a (xy_a A 73 t_items) 66 t_lines) 67 t_numbers) 70 t_parts) 71 t_sorts) 72 t_values) (xy_l L 76 r.2) S) := by
  intro N
  induction N with
  | zero => intro t_ways v1 r h; cases h
  | succ N hk2 =>
    intro t_ways v1 r h
    refine xe_seg ok 5 (G := (fun K => if xr_in ((0 : Int32)) 3 = true then K (68, xm_i68, xm_I68, 0, 0, 9, [(0, .ref 59), (1, .int v1)], [.int (t_lines ((0 : Int32)).toNatClampNeg), .int v1], xw_W (xy_a (xy_a (xy_a (xy_a (xy_a (xy_a A 73 t_items) 66 t_lines) 67 t_numbers) 70 t_parts) 71 t_sorts) 72 t_values) (xy_l L 76 t_ways) S) else none)) (fun K => rfl) ?_
    obtain ⟨hg1004, h⟩ := xn_if h
    refine xe_pos hg1004 (xe_k ?_)
    refine xe_seg ok 1 (G := (fun K => if v1 < (t_lines ((0 : Int32)).toNatClampNeg) then K (68, xm_i68, xm_I68, 0, 0, 12, [(0, .ref 59), (1, .int v1)], [], xw_W (xy_a (xy_a (xy_a (xy_a (xy_a (xy_a A 73 t_items) 66 t_lines) 67 t_numbers) 70 t_parts) 71 t_sorts) 72 t_values) (xy_l L 76 t_ways) S) else K (68, xm_i68, xm_I68, 0, 0, 85, [(0, .ref 59), (1, .int v1)], [], xw_W (xy_a (xy_a (xy_a (xy_a (xy_a (xy_a A 73 t_items) 66 t_lines) 67 t_numbers) 70 t_parts) 71 t_sorts) 72 t_values) (xy_l L 76 t_ways) S))) (fun K => rfl) ?_
    rcases xb_if h with ⟨hc1005, h⟩ | ⟨hc1005, h⟩
    · refine xe_pos hc1005 (xe_k ?_)
      refine xe_seg ok 5 (G := (fun K => if xr_in v1 40 = true then K (68, xm_i68, xm_I68, 0, 0, 19, [(0, .ref 59), (1, .int v1)], [], xw_W (xy_a (xy_a (xy_a (xy_a (xy_a (xy_a A 73 t_items) 66 t_lines) 67 t_numbers) 70 t_parts) 71 t_sorts) 72 t_values) (xy_l L 76 (vp_updL t_ways v1.toNatClampNeg (((0 : Int64))))) S) else none)) (fun K => rfl) ?_
      obtain ⟨hg1006, h⟩ := xn_if h
      refine xe_pos hg1006 (xe_k ?_)
      refine xe_seg ok 4 (G := (fun K => K (68, xm_i68, xm_I68, 0, 0, 24, [(0, .ref 59), (1, .int v1), (2, .int (((8 : Int32)) * v1))], [], xw_W (xy_a (xy_a (xy_a (xy_a (xy_a (xy_a A 73 t_items) 66 t_lines) 67 t_numbers) 70 t_parts) 71 t_sorts) 72 t_values) (xy_l L 76 (vp_updL t_ways v1.toNatClampNeg (((0 : Int64))))) S))) (fun K => rfl) ?_
      refine xe_k ?_
      refine xe_sub [true, true, true] (lv' := [(0, .ref 59), (1, .int v1), (2, .int (((8 : Int32)) * v1))]) rfl ?_
      exact xh_rf_findWays_57_24 ok A L S t_items t_lines t_numbers t_parts t_sorts t_values hk2 n n (vp_updL t_ways v1.toNatClampNeg (((0 : Int64)))) v1 (((8 : Int32)) * v1) _ h
    · refine xe_neg hc1005 (xe_k ?_)
      obtain rfl := Option.some.inj h
      refine xe_seg ok 1 (G := (fun _ => some (.inl none, xw_W (xy_a (xy_a (xy_a (xy_a (xy_a (xy_a A 73 t_items) 66 t_lines) 67 t_numbers) 70 t_parts) 71 t_sorts) 72 t_values) (xy_l L 76 t_ways) S))) (fun K => rfl) ?_
      exact xe_ret
theorem xh_rf_findWays_57 {l : Launch} {g : xr_G} (ok : xr_OK xm_P) (A : Nat → Nat → Int32) (L : Nat → Nat → Int64) (S : Nat → Nat → Int32) (t_items : (Nat → Int32)) (t_lines : (Nat → Int32)) (t_numbers : (Nat → Int32)) (t_parts : (Nat → Int32)) (t_sorts : (Nat → Int32)) (t_values : (Nat → Int32)) (n : Nat) : ∀ (t_ways : (Nat → Int64)) (r : (Unit × (Nat → Int64))), xf_rf_findWays t_items t_lines t_numbers t_parts t_sorts t_values n t_ways = some r → xV xm_P l g (68, xm_i68, xm_I68, 0, 0, 0, [(0, .ref 59)], [], xw_W (xy_a (xy_a (xy_a (xy_a (xy_a (xy_a A 73 t_items) 66 t_lines) 67 t_numbers) 70 t_parts) 71 t_sorts) 72 t_values) (xy_l L 76 t_ways) S) (.inl none, xw_W (xy_a (xy_a (xy_a (xy_a (xy_a (xy_a A 73 t_items) 66 t_lines) 67 t_numbers) 70 t_parts) 71 t_sorts) 72 t_values) (xy_l L 76 r.2) S) := by
  intro t_ways r h
  unfold xf_rf_findWays at h
  refine xe_seg ok 2 (G := (fun K => K (68, xm_i68, xm_I68, 0, 0, 2, [(0, .ref 59), (1, .int ((0 : Int32)))], [], xw_W (xy_a (xy_a (xy_a (xy_a (xy_a (xy_a A 73 t_items) 66 t_lines) 67 t_numbers) 70 t_parts) 71 t_sorts) 72 t_values) (xy_l L 76 t_ways) S))) (fun K => rfl) ?_
  refine xe_k ?_
  refine xe_sub [true, true] (lv' := [(0, .ref 59), (1, .int ((0 : Int32)))]) rfl ?_
  exact xh_rf_findWays_57_2 ok A L S t_items t_lines t_numbers t_parts t_sorts t_values n n t_ways ((0 : Int32)) _ h
theorem xh_rf_findDepths_57_146 {l : Launch} {g : xr_G} (ok : xr_OK xm_P) (A : Nat → Nat → Int32) (L : Nat → Nat → Int64) (S : Nat → Nat → Int32) (t_items : (Nat → Int32)) (t_lines : (Nat → Int32)) (t_numbers : (Nat → Int32)) (t_parts : (Nat → Int32)) (t_sorts : (Nat → Int32)) (t_values : (Nat → Int32)) {k27 : (Nat → Int32) → (Nat → Int64) → Int32 → Option (Unit × (Nat → Int32) × (Nat → Int64))} (hk27 : ∀ (t_depths : (Nat → Int32)) (t_ways : (Nat → Int64)) (v1 : Int32) (r : (Unit × (Nat → Int32) × (Nat → Int64))), k27 t_depths t_ways v1 = some r → xV xm_P l g (69, xm_i69, xm_I69, 0, 0, 27, [(0, .ref 59), (1, .int v1)], [], xw_W (xy_a (xy_a (xy_a (xy_a (xy_a (xy_a (xy_a A 74 t_depths) 73 t_items) 66 t_lines) 67 t_numbers) 70 t_parts) 71 t_sorts) 72 t_values) (xy_l L 76 t_ways) S) (.inl none, xw_W (xy_a (xy_a (xy_a (xy_a (xy_a (xy_a (xy_a A 74 r.2.1) 73 t_items) 66 t_lines) 67 t_numbers) 70 t_parts) 71 t_sorts) 72 t_values) (xy_l L 76 r.2.2) S)) {k35 : (Nat → Int32) → (Nat → Int64) → Int32 → Int32 → Option (Unit × (Nat → Int32) × (Nat → Int64))} (hk35 : ∀ (t_depths : (Nat → Int32)) (t_ways : (Nat → Int64)) (v1 : Int32) (v2 : Int32) (r : (Unit × (Nat → Int32) × (Nat → Int64))), k35 t_depths t_ways v1 v2 = some r → xV xm_P l g (69, xm_i69, xm_I69, 0, 0, 35, [(0, .ref 59), (1, .int v1), (2, .int v2)], [], xw_W (xy_a (xy_a (xy_a (xy_a (xy_a (xy_a (xy_a A 74 t_depths) 73 t_items) 66 t_lines) 67 t_numbers) 70 t_parts) 71 t_sorts) 72 t_values) (xy_l L 76 t_ways) S) (.inl none, xw_W (xy_a (xy_a (xy_a (xy_a (xy_a (xy_a (xy_a A 74 r.2.1) 73 t_items) 66 t_lines) 67 t_numbers) 70 t_parts) 71 t_sorts) 72 t_values) (xy_l L 76 r.2.2) S)) {k66 : (Nat → Int32) → (Nat → Int64) → Int32 → Int32 → Int32 → Int32 → Int32 → Option (Unit × (Nat → Int32) × (Nat → Int64))} (hk66 : ∀ (t_depths : (Nat → Int32)) (t_ways : (Nat → Int64)) (v1 : Int32) (v2 : Int32) (v3 : Int32) (v4 : Int32) (v5 : Int32) (r : (Unit × (Nat → Int32) × (Nat → Int64))), k66 t_depths t_ways v1 v2 v3 v4 v5 = some r → xV xm_P l g (69, xm_i69, xm_I69, 0, 0, 66, [(0, .ref 59), (1, .int v1), (2, .int v2), (3, .int v3), (4, .int v4), (5, .int v5)], [], xw_W (xy_a (xy_a (xy_a (xy_a (xy_a (xy_a (xy_a A 74 t_depths) 73 t_items) 66 t_lines) 67 t_numbers) 70 t_parts) 71 t_sorts) 72 t_values) (xy_l L 76 t_ways) S) (.inl none, xw_W (xy_a (xy_a (xy_a (xy_a (xy_a (xy_a (xy_a A 74 r.2.1) 73 t_items) 66 t_lines) 67 t_numbers) 70 t_parts) 71 t_sorts) 72 t_values) (xy_l L 76 r.2.2) S)) (n : Nat) : ∀ (t_depths : (Nat → Int32)) (t_ways : (Nat → Int64)) (v1 : Int32) (v2 : Int32) (v3 : Int32) (v4 : Int32) (v5 : Int32) (r : (Unit × (Nat → Int32) × (Nat → Int64))), xf_rf_findDepths_146 t_items t_lines t_numbers t_parts t_sorts t_values k27 k35 k66 n t_depths t_ways v1 v2 v3 v4 v5 = some r → xV xm_P l g (69, xm_i69, xm_I69, 0, 0, 146, [(0, .ref 59), (1, .int v1), (2, .int v2), (3, .int v3), (4, .int v4), (5, .int v5)], [], xw_W (xy_a (xy_a (xy_a (xy_a (xy_a (xy_a (xy_a A 74 t_depths) 73 t_items) 66 t_lines) 67 t_numbers) 70 t_parts) 71 t_sorts) 72 t_values) (xy_l L 76 t_ways) S) (.inl none, xw_W (xy_a (xy_a (xy_a (xy_a (xy_a (xy_a (xy_a A 74 r.2.1) 73 t_items) 66 t_lines) 67 t_numbers) 70 t_parts) 71 t_sorts) 72 t_values) (xy_l L 76 r.2.2) S) := by
  intro t_depths t_ways v1 v2 v3 v4 v5 r h
  unfold xf_rf_findDepths_146 at h
  refine xe_seg ok 2 (G := (fun K => K (69, xm_i69, xm_I69, 0, 0, 66, [(0, .ref 59), (1, .int v1), (2, .int v2), (3, .int v3), (4, .int v4), (5, .int (v5 + (1 : Int32)))], [], xw_W (xy_a (xy_a (xy_a (xy_a (xy_a (xy_a (xy_a A 74 t_depths) 73 t_items) 66 t_lines) 67 t_numbers) 70 t_parts) 71 t_sorts) 72 t_values) (xy_l L 76 t_ways) S))) (fun K => rfl) ?_
  refine xe_k ?_
  refine xe_sub [true, true, true, true, true, true] (lv' := [(0, .ref 59), (1, .int v1), (2, .int v2), (3, .int v3), (4, .int v4), (5, .int (v5 + (1 : Int32)))]) rfl ?_
  exact hk66 t_depths t_ways v1 v2 v3 v4 (v5 + (1 : Int32)) _ h
theorem xh_rf_findDepths_57_145 {l : Launch} {g : xr_G} (ok : xr_OK xm_P) (A : Nat → Nat → Int32) (L : Nat → Nat → Int64) (S : Nat → Nat → Int32) (t_items : (Nat → Int32)) (t_lines : (Nat → Int32)) (t_numbers : (Nat → Int32)) (t_parts : (Nat → Int32)) (t_sorts : (Nat → Int32)) (t_values : (Nat → Int32)) {k27 : (Nat → Int32) → (Nat → Int64) → Int32 → Option (Unit × (Nat → Int32) × (Nat → Int64))} (hk27 : ∀ (t_depths : (Nat → Int32)) (t_ways : (Nat → Int64)) (v1 : Int32) (r : (Unit × (Nat → Int32) × (Nat → Int64))), k27 t_depths t_ways v1 = some r → xV xm_P l g (69, xm_i69, xm_I69, 0, 0, 27, [(0, .ref 59), (1, .int v1)], [], xw_W (xy_a (xy_a (xy_a (xy_a (xy_a (xy_a (xy_a A 74 t_depths) 73 t_items) 66 t_lines) 67 t_numbers) 70 t_parts) 71 t_sorts) 72 t_values) (xy_l L 76 t_ways) S) (.inl none, xw_W (xy_a (xy_a (xy_a (xy_a (xy_a (xy_a (xy_a A 74 r.2.1) 73 t_items) 66 t_lines) 67 t_numbers) 70 t_parts) 71 t_sorts) 72 t_values) (xy_l L 76 r.2.2) S)) {k35 : (Nat → Int32) → (Nat → Int64) → Int32 → Int32 → Option (Unit × (Nat → Int32) × (Nat → Int64))} (hk35 : ∀ (t_depths : (Nat → Int32)) (t_ways : (Nat → Int64)) (v1 : Int32) (v2 : Int32) (r : (Unit × (Nat → Int32) × (Nat → Int64))), k35 t_depths t_ways v1 v2 = some r → xV xm_P l g (69, xm_i69, xm_I69, 0, 0, 35, [(0, .ref 59), (1, .int v1), (2, .int v2)], [], xw_W (xy_a (xy_a (xy_a (xy_a (xy_a (xy_a (xy_a A 74 t_depths) 73 t_items) 66 t_lines) 67 t_numbers) 70 t_parts) 71 t_sorts) 72 t_values) (xy_l L 76 t_ways) S) (.inl none, xw_W (xy_a (xy_a (xy_a (xy_a (xy_a (xy_a (xy_a A 74 r.2.1) 73 t_items) 66 t_lines) 67 t_numbers) 70 t_parts) 71 t_sorts) 72 t_values) (xy_l L 76 r.2.2) S)) {k66 : (Nat → Int32) → (Nat → Int64) → Int32 → Int32 → Int32 → Int32 → Int32 → Option (Unit × (Nat → Int32) × (Nat → Int64))} (hk66 : ∀ (t_depths : (Nat → Int32)) (t_ways : (Nat → Int64)) (v1 : Int32) (v2 : Int32) (v3 : Int32) (v4 : Int32) (v5 : Int32) (r : (Unit × (Nat → Int32) × (Nat → Int64))), k66 t_depths t_ways v1 v2 v3 v4 v5 = some r → xV xm_P l g (69, xm_i69, xm_I69, 0, 0, 66, [(0, .ref 59), (1, .int v1), (2, .int v2), (3, .int v3), (4, .int v4), (5, .int v5)], [], xw_W (xy_a (xy_a (xy_a (xy_a (xy_a (xy_a (xy_a A 74 t_depths) 73 t_items) 66 t_lines) 67 t_numbers) 70 t_parts) 71 t_sorts) 72 t_values) (xy_l L 76 t_ways) S) (.inl none, xw_W (xy_a (xy_a (xy_a (xy_a (xy_a (xy_a (xy_a A 74 r.2.1) 73 t_items) 66 t_lines) 67 t_numbers) 70 t_parts) 71 t_sorts) 72 t_values) (xy_l L 76 r.2.2) S)) (n : Nat) : ∀ (t_depths : (Nat → Int32)) (t_ways : (Nat → Int64)) (v1 : Int32) (v2 : Int32) (v4 : Int32) (v5 : Int32) (s0 : Int32) (r : (Unit × (Nat → Int32) × (Nat → Int64))), xf_rf_findDepths_145 t_items t_lines t_numbers t_parts t_sorts t_values k27 k35 k66 n t_depths t_ways v1 v2 v4 v5 s0 = some r → xV xm_P l g (69, xm_i69, xm_I69, 0, 0, 145, [(0, .ref 59), (1, .int v1), (2, .int v2), (4, .int v4), (5, .int v5)], [.int s0], xw_W (xy_a (xy_a (xy_a (xy_a (xy_a (xy_a (xy_a A 74 t_depths) 73 t_items) 66 t_lines) 67 t_numbers) 70 t_parts) 71 t_sorts) 72 t_values) (xy_l L 76 t_ways) S) (.inl none, xw_W (xy_a (xy_a (xy_a (xy_a (xy_a (xy_a (xy_a A 74 r.2.1) 73 t_items) 66 t_lines) 67 t_numbers) 70 t_parts) 71 t_sorts) 72 t_values) (xy_l L 76 r.2.2) S) := by
  intro t_depths t_ways v1 v2 v4 v5 s0 r h
  unfold xf_rf_findDepths_145 at h
  refine xe_seg ok 1 (G := (fun K => K (69, xm_i69, xm_I69, 0, 0, 146, [(0, .ref 59), (1, .int v1), (2, .int v2), (3, .int s0), (4, .int v4), (5, .int v5)], [], xw_W (xy_a (xy_a (xy_a (xy_a (xy_a (xy_a (xy_a A 74 t_depths) 73 t_items) 66 t_lines) 67 t_numbers) 70 t_parts) 71 t_sorts) 72 t_values) (xy_l L 76 t_ways) S))) (fun K => rfl) ?_
  refine xe_k ?_
  refine xe_sub [true, true, true, true, true, true] (lv' := [(0, .ref 59), (1, .int v1), (2, .int v2), (3, .int s0), (4, .int v4), (5, .int v5)]) rfl ?_
  exact xh_rf_findDepths_57_146 ok A L S t_items t_lines t_numbers t_parts t_sorts t_values hk27 hk35 hk66 n t_depths t_ways v1 v2 s0 v4 v5 _ h
theorem xh_rf_findDepths_57_117 {l : Launch} {g : xr_G} (ok : xr_OK xm_P) (A : Nat → Nat → Int32) (L : Nat → Nat → Int64) (S : Nat → Nat → Int32) (t_items : (Nat → Int32)) (t_lines : (Nat → Int32)) (t_numbers : (Nat → Int32)) (t_parts : (Nat → Int32)) (t_sorts : (Nat → Int32)) (t_values : (Nat → Int32)) {k27 : (Nat → Int32) → (Nat → Int64) → Int32 → Option (Unit × (Nat → Int32) × (Nat → Int64))} (hk27 : ∀ (t_depths : (Nat → Int32)) (t_ways : (Nat → Int64)) (v1 : Int32) (r : (Unit × (Nat → Int32) × (Nat → Int64))), k27 t_depths t_ways v1 = some r → xV xm_P l g (69, xm_i69, xm_I69, 0, 0, 27, [(0, .ref 59), (1, .int v1)], [], xw_W (xy_a (xy_a (xy_a (xy_a (xy_a (xy_a (xy_a A 74 t_depths) 73 t_items) 66 t_lines) 67 t_numbers) 70 t_parts) 71 t_sorts) 72 t_values) (xy_l L 76 t_ways) S) (.inl none, xw_W (xy_a (xy_a (xy_a (xy_a (xy_a (xy_a (xy_a A 74 r.2.1) 73 t_items) 66 t_lines) 67 t_numbers) 70 t_parts) 71 t_sorts) 72 t_values) (xy_l L 76 r.2.2) S)) {k35 : (Nat → Int32) → (Nat → Int64) → Int32 → Int32 → Option (Unit × (Nat → Int32) × (Nat → Int64))} (hk35 : ∀ (t_depths : (Nat → Int32)) (t_ways : (Nat → Int64)) (v1 : Int32) (v2 : Int32) (r : (Unit × (Nat → Int32) × (Nat → Int64))), k35 t_depths t_ways v1 v2 = some r → xV xm_P l g (69, xm_i69, xm_I69, 0, 0, 35, [(0, .ref 59), (1, .int v1), (2, .int v2)], [], xw_W (xy_a (xy_a (xy_a (xy_a (xy_a (xy_a (xy_a A 74 t_depths) 73 t_items) 66 t_lines) 67 t_numbers) 70 t_parts) 71 t_sorts) 72 t_values) (xy_l L 76 t_ways) S) (.inl none, xw_W (xy_a (xy_a (xy_a (xy_a (xy_a (xy_a (xy_a A 74 r.2.1) 73 t_items) 66 t_lines) 67 t_numbers) 70 t_parts) 71 t_sorts) 72 t_values) (xy_l L 76 r.2.2) S)) {k66 : (Nat → Int32) → (Nat → Int64) → Int32 → Int32 → Int32 → Int32 → Int32 → Option (Unit × (Nat → Int32) × (Nat → Int64))} (hk66 : ∀ (t_depths : (Nat → Int32)) (t_ways : (Nat → Int64)) (v1 : Int32) (v2 : Int32) (v3 : Int32) (v4 : Int32) (v5 : Int32) (r : (Unit × (Nat → Int32) × (Nat → Int64))), k66 t_depths t_ways v1 v2 v3 v4 v5 = some r → xV xm_P l g (69, xm_i69, xm_I69, 0, 0, 66, [(0, .ref 59), (1, .int v1), (2, .int v2), (3, .int v3), (4, .int v4), (5, .int v5)], [], xw_W (xy_a (xy_a (xy_a (xy_a (xy_a (xy_a (xy_a A 74 t_depths) 73 t_items) 66 t_lines) 67 t_numbers) 70 t_parts) 71 t_sorts) 72 t_values) (xy_l L 76 t_ways) S) (.inl none, xw_W (xy_a (xy_a (xy_a (xy_a (xy_a (xy_a (xy_a A 74 r.2.1) 73 t_items) 66 t_lines) 67 t_numbers) 70 t_parts) 71 t_sorts) 72 t_values) (xy_l L 76 r.2.2) S)) (n : Nat) : ∀ (t_depths : (Nat → Int32)) (t_ways : (Nat → Int64)) (v1 : Int32) (v2 : Int32) (v3 : Int32) (v5 : Int32) (s0 : Int32) (r : (Unit × (Nat → Int32) × (Nat → Int64))), xf_rf_findDepths_117 t_items t_lines t_numbers t_parts t_sorts t_values k27 k35 k66 n t_depths t_ways v1 v2 v3 v5 s0 = some r → xV xm_P l g (69, xm_i69, xm_I69, 0, 0, 117, [(0, .ref 59), (1, .int v1), (2, .int v2), (3, .int v3), (5, .int v5)], [.int s0], xw_W (xy_a (xy_a (xy_a (xy_a (xy_a (xy_a (xy_a A 74 t_depths) 73 t_items) 66 t_lines) 67 t_numbers) 70 t_parts) 71 t_sorts) 72 t_values) (xy_l L 76 t_ways) S) (.inl none, xw_W (xy_a (xy_a (xy_a (xy_a (xy_a (xy_a (xy_a A 74 r.2.1) 73 t_items) 66 t_lines) 67 t_numbers) 70 t_parts) 71 t_sorts) 72 t_values) (xy_l L 76 r.2.2) S) := by
  intro t_depths t_ways v1 v2 v3 v5 s0 r h
  unfold xf_rf_findDepths_117 at h
  refine xe_seg ok 5 (G := (fun K => if xr_in v5 40 = true then K (69, xm_i69, xm_I69, 0, 0, 126, [(0, .ref 59), (1, .int v1), (2, .int v2), (3, .int v3), (4, .int s0), (5, .int v5)], [.int (t_depths v5.toNatClampNeg)], xw_W (xy_a (xy_a (xy_a (xy_a (xy_a (xy_a (xy_a A 74 t_depths) 73 t_items) 66 t_lines) 67 t_numbers) 70 t_parts) 71 t_sorts) 72 t_values) (xy_l L 76 t_ways) S) else none)) (fun K => rfl) ?_
  obtain ⟨hg1037, h⟩ := xn_if h
  refine xe_pos hg1037 (xe_k ?_)
  refine xe_seg ok 4 (G := (fun K => if v3 < ((t_depths v5.toNatClampNeg) + ((1 : Int32))) then K (69, xm_i69, xm_I69, 0, 0, 132, [(0, .ref 59), (1, .int v1), (2, .int v2), (3, .int v3), (4, .int s0), (5, .int v5)], [], xw_W (xy_a (xy_a (xy_a (xy_a (xy_a (xy_a (xy_a A 74 t_depths) 73 t_items) 66 t_lines) 67 t_numbers) 70 t_parts) 71 t_sorts) 72 t_values) (xy_l L 76 t_ways) S) else K (69, xm_i69, xm_I69, 0, 0, 144, [(0, .ref 59), (1, .int v1), (2, .int v2), (3, .int v3), (4, .int s0), (5, .int v5)], [], xw_W (xy_a (xy_a (xy_a (xy_a (xy_a (xy_a (xy_a A 74 t_depths) 73 t_items) 66 t_lines) 67 t_numbers) 70 t_parts) 71 t_sorts) 72 t_values) (xy_l L 76 t_ways) S))) (fun K => rfl) ?_
  rcases xb_if h with ⟨hc1038, h⟩ | ⟨hc1038, h⟩
  · refine xe_pos hc1038 (xe_k ?_)
    refine xe_seg ok 4 (G := (fun K => if xr_in v5 40 = true then K (69, xm_i69, xm_I69, 0, 0, 139, [(0, .ref 59), (1, .int v1), (2, .int v2), (3, .int v3), (4, .int s0), (5, .int v5)], [.int (t_depths v5.toNatClampNeg)], xw_W (xy_a (xy_a (xy_a (xy_a (xy_a (xy_a (xy_a A 74 t_depths) 73 t_items) 66 t_lines) 67 t_numbers) 70 t_parts) 71 t_sorts) 72 t_values) (xy_l L 76 t_ways) S) else none)) (fun K => rfl) ?_
    obtain ⟨hg1039, h⟩ := xn_if h
    refine xe_pos hg1039 (xe_k ?_)
    refine xe_seg ok 3 (G := (fun K => K (69, xm_i69, xm_I69, 0, 0, 145, [(0, .ref 59), (1, .int v1), (2, .int v2), (3, .int v3), (4, .int s0), (5, .int v5)], [.int ((t_depths v5.toNatClampNeg) + ((1 : Int32)))], xw_W (xy_a (xy_a (xy_a (xy_a (xy_a (xy_a (xy_a A 74 t_depths) 73 t_items) 66 t_lines) 67 t_numbers) 70 t_parts) 71 t_sorts) 72 t_values) (xy_l L 76 t_ways) S))) (fun K => rfl) ?_
    refine xe_k ?_
    refine xe_sub [true, true, true, false, true, true] (lv' := [(0, .ref 59), (1, .int v1), (2, .int v2), (4, .int s0), (5, .int v5)]) rfl ?_
    exact xh_rf_findDepths_57_145 ok A L S t_items t_lines t_numbers t_parts t_sorts t_values hk27 hk35 hk66 n t_depths t_ways v1 v2 s0 v5 ((t_depths v5.toNatClampNeg) + ((1 : Int32))) _ h
  · refine xe_neg hc1038 (xe_k ?_)
    refine xe_seg ok 1 (G := (fun K => K (69, xm_i69, xm_I69, 0, 0, 145, [(0, .ref 59), (1, .int v1), (2, .int v2), (3, .int v3), (4, .int s0), (5, .int v5)], [.int v3], xw_W (xy_a (xy_a (xy_a (xy_a (xy_a (xy_a (xy_a A 74 t_depths) 73 t_items) 66 t_lines) 67 t_numbers) 70 t_parts) 71 t_sorts) 72 t_values) (xy_l L 76 t_ways) S))) (fun K => rfl) ?_
    refine xe_k ?_
    refine xe_sub [true, true, true, false, true, true] (lv' := [(0, .ref 59), (1, .int v1), (2, .int v2), (4, .int s0), (5, .int v5)]) rfl ?_
    exact xh_rf_findDepths_57_145 ok A L S t_items t_lines t_numbers t_parts t_sorts t_values hk27 hk35 hk66 n t_depths t_ways v1 v2 s0 v5 v3 _ h
theorem xh_rf_findDepths_57_116 {l : Launch} {g : xr_G} (ok : xr_OK xm_P) (A : Nat → Nat → Int32) (L : Nat → Nat → Int64) (S : Nat → Nat → Int32) (t_items : (Nat → Int32)) (t_lines : (Nat → Int32)) (t_numbers : (Nat → Int32)) (t_parts : (Nat → Int32)) (t_sorts : (Nat → Int32)) (t_values : (Nat → Int32)) {k27 : (Nat → Int32) → (Nat → Int64) → Int32 → Option (Unit × (Nat → Int32) × (Nat → Int64))} (hk27 : ∀ (t_depths : (Nat → Int32)) (t_ways : (Nat → Int64)) (v1 : Int32) (r : (Unit × (Nat → Int32) × (Nat → Int64))), k27 t_depths t_ways v1 = some r → xV xm_P l g (69, xm_i69, xm_I69, 0, 0, 27, [(0, .ref 59), (1, .int v1)], [], xw_W (xy_a (xy_a (xy_a (xy_a (xy_a (xy_a (xy_a A 74 t_depths) 73 t_items) 66 t_lines) 67 t_numbers) 70 t_parts) 71 t_sorts) 72 t_values) (xy_l L 76 t_ways) S) (.inl none, xw_W (xy_a (xy_a (xy_a (xy_a (xy_a (xy_a (xy_a A 74 r.2.1) 73 t_items) 66 t_lines) 67 t_numbers) 70 t_parts) 71 t_sorts) 72 t_values) (xy_l L 76 r.2.2) S)) {k35 : (Nat → Int32) → (Nat → Int64) → Int32 → Int32 → Option (Unit × (Nat → Int32) × (Nat → Int64))} (hk35 : ∀ (t_depths : (Nat → Int32)) (t_ways : (Nat → Int64)) (v1 : Int32) (v2 : Int32) (r : (Unit × (Nat → Int32) × (Nat → Int64))), k35 t_depths t_ways v1 v2 = some r → xV xm_P l g (69, xm_i69, xm_I69, 0, 0, 35, [(0, .ref 59), (1, .int v1), (2, .int v2)], [], xw_W (xy_a (xy_a (xy_a (xy_a (xy_a (xy_a (xy_a A 74 t_depths) 73 t_items) 66 t_lines) 67 t_numbers) 70 t_parts) 71 t_sorts) 72 t_values) (xy_l L 76 t_ways) S) (.inl none, xw_W (xy_a (xy_a (xy_a (xy_a (xy_a (xy_a (xy_a A 74 r.2.1) 73 t_items) 66 t_lines) 67 t_numbers) 70 t_parts) 71 t_sorts) 72 t_values) (xy_l L 76 r.2.2) S)) {k66 : (Nat → Int32) → (Nat → Int64) → Int32 → Int32 → Int32 → Int32 → Int32 → Option (Unit × (Nat → Int32) × (Nat → Int64))} (hk66 : ∀ (t_depths : (Nat → Int32)) (t_ways : (Nat → Int64)) (v1 : Int32) (v2 : Int32) (v3 : Int32) (v4 : Int32) (v5 : Int32) (r : (Unit × (Nat → Int32) × (Nat → Int64))), k66 t_depths t_ways v1 v2 v3 v4 v5 = some r → xV xm_P l g (69, xm_i69, xm_I69, 0, 0, 66, [(0, .ref 59), (1, .int v1), (2, .int v2), (3, .int v3), (4, .int v4), (5, .int v5)], [], xw_W (xy_a (xy_a (xy_a (xy_a (xy_a (xy_a (xy_a A 74 t_depths) 73 t_items) 66 t_lines) 67 t_numbers) 70 t_parts) 71 t_sorts) 72 t_values) (xy_l L 76 t_ways) S) (.inl none, xw_W (xy_a (xy_a (xy_a (xy_a (xy_a (xy_a (xy_a A 74 r.2.1) 73 t_items) 66 t_lines) 67 t_numbers) 70 t_parts) 71 t_sorts) 72 t_values) (xy_l L 76 r.2.2) S)) (n : Nat) : ∀ (t_depths : (Nat → Int32)) (t_ways : (Nat → Int64)) (v1 : Int32) (v2 : Int32) (v3 : Int32) (v5 : Int32) (r : (Unit × (Nat → Int32) × (Nat → Int64))), xf_rf_findDepths_116 t_items t_lines t_numbers t_parts t_sorts t_values k27 k35 k66 n t_depths t_ways v1 v2 v3 v5 = some r → xV xm_P l g (69, xm_i69, xm_I69, 0, 0, 116, [(0, .ref 59), (1, .int v1), (2, .int v2), (3, .int v3), (5, .int v5)], [], xw_W (xy_a (xy_a (xy_a (xy_a (xy_a (xy_a (xy_a A 74 t_depths) 73 t_items) 66 t_lines) 67 t_numbers) 70 t_parts) 71 t_sorts) 72 t_values) (xy_l L 76 t_ways) S) (.inl none, xw_W (xy_a (xy_a (xy_a (xy_a (xy_a (xy_a (xy_a A 74 r.2.1) 73 t_items) 66 t_lines) 67 t_numbers) 70 t_parts) 71 t_sorts) 72 t_values) (xy_l L 76 r.2.2) S) := by
  intro t_depths t_ways v1 v2 v3 v5 r h
  unfold xf_rf_findDepths_116 at h
  refine xe_seg ok 1 (G := (fun K => K (69, xm_i69, xm_I69, 0, 0, 117, [(0, .ref 59), (1, .int v1), (2, .int v2), (3, .int v3), (5, .int v5)], [.int ((0 : Int32))], xw_W (xy_a (xy_a (xy_a (xy_a (xy_a (xy_a (xy_a A 74 t_depths) 73 t_items) 66 t_lines) 67 t_numbers) 70 t_parts) 71 t_sorts) 72 t_values) (xy_l L 76 t_ways) S))) (fun K => rfl) ?_
  refine xe_k ?_
  refine xe_sub [true, true, true, true, true] (lv' := [(0, .ref 59), (1, .int v1), (2, .int v2), (3, .int v3), (5, .int v5)]) rfl ?_
  exact xh_rf_findDepths_57_117 ok A L S t_items t_lines t_numbers t_parts t_sorts t_values hk27 hk35 hk66 n t_depths t_ways v1 v2 v3 v5 ((0 : Int32)) _ h
theorem xh_rf_findDepths_57_166 {l : Launch} {g : xr_G} (ok : xr_OK xm_P) (A : Nat → Nat → Int32) (L : Nat → Nat → Int64) (S : Nat → Nat → Int32) (t_items : (Nat → Int32)) (t_lines : (Nat → Int32)) (t_numbers : (Nat → Int32)) (t_parts : (Nat → Int32)) (t_sorts : (Nat → Int32)) (t_values : (Nat → Int32)) {k27 : (Nat → Int32) → (Nat → Int64) → Int32 → Option (Unit × (Nat → Int32) × (Nat → Int64))} (hk27 : ∀ (t_depths : (Nat → Int32)) (t_ways : (Nat → Int64)) (v1 : Int32) (r : (Unit × (Nat → Int32) × (Nat → Int64))), k27 t_depths t_ways v1 = some r → xV xm_P l g (69, xm_i69, xm_I69, 0, 0, 27, [(0, .ref 59), (1, .int v1)], [], xw_W (xy_a (xy_a (xy_a (xy_a (xy_a (xy_a (xy_a A 74 t_depths) 73 t_items) 66 t_lines) 67 t_numbers) 70 t_parts) 71 t_sorts) 72 t_values) (xy_l L 76 t_ways) S) (.inl none, xw_W (xy_a (xy_a (xy_a (xy_a (xy_a (xy_a (xy_a A 74 r.2.1) 73 t_items) 66 t_lines) 67 t_numbers) 70 t_parts) 71 t_sorts) 72 t_values) (xy_l L 76 r.2.2) S)) {k35 : (Nat → Int32) → (Nat → Int64) → Int32 → Int32 → Option (Unit × (Nat → Int32) × (Nat → Int64))} (hk35 : ∀ (t_depths : (Nat → Int32)) (t_ways : (Nat → Int64)) (v1 : Int32) (v2 : Int32) (r : (Unit × (Nat → Int32) × (Nat → Int64))), k35 t_depths t_ways v1 v2 = some r → xV xm_P l g (69, xm_i69, xm_I69, 0, 0, 35, [(0, .ref 59), (1, .int v1), (2, .int v2)], [], xw_W (xy_a (xy_a (xy_a (xy_a (xy_a (xy_a (xy_a A 74 t_depths) 73 t_items) 66 t_lines) 67 t_numbers) 70 t_parts) 71 t_sorts) 72 t_values) (xy_l L 76 t_ways) S) (.inl none, xw_W (xy_a (xy_a (xy_a (xy_a (xy_a (xy_a (xy_a A 74 r.2.1) 73 t_items) 66 t_lines) 67 t_numbers) 70 t_parts) 71 t_sorts) 72 t_values) (xy_l L 76 r.2.2) S)) (n : Nat) : ∀ (t_depths : (Nat → Int32)) (t_ways : (Nat → Int64)) (v1 : Int32) (v2 : Int32) (r : (Unit × (Nat → Int32) × (Nat → Int64))), xf_rf_findDepths_166 t_items t_lines t_numbers t_parts t_sorts t_values k27 k35 n t_depths t_ways v1 v2 = some r → xV xm_P l g (69, xm_i69, xm_I69, 0, 0, 166, [(0, .ref 59), (1, .int v1), (2, .int v2)], [], xw_W (xy_a (xy_a (xy_a (xy_a (xy_a (xy_a (xy_a A 74 t_depths) 73 t_items) 66 t_lines) 67 t_numbers) 70 t_parts) 71 t_sorts) 72 t_values) (xy_l L 76 t_ways) S) (.inl none, xw_W (xy_a (xy_a (xy_a (xy_a (xy_a (xy_a (xy_a A 74 r.2.1) 73 t_items) 66 t_lines) 67 t_numbers) 70 t_parts) 71 t_sorts) 72 t_values) (xy_l L 76 r.2.2) S) := by
  intro t_depths t_ways v1 v2 r h
  unfold xf_rf_findDepths_166 at h
  refine xe_seg ok 2 (G := (fun K => K (69, xm_i69, xm_I69, 0, 0, 35, [(0, .ref 59), (1, .int v1), (2, .int (v2 + (1 : Int32)))], [], xw_W (xy_a (xy_a (xy_a (xy_a (xy_a (xy_a (xy_a A 74 t_depths) 73 t_items) 66 t_lines) 67 t_numbers) 70 t_parts) 71 t_sorts) 72 t_values) (xy_l L 76 t_ways) S))) (fun K => rfl) ?_
  refine xe_k ?_
  refine xe_sub [true, true, true] (lv' := [(0, .ref 59), (1, .int v1), (2, .int (v2 + (1 : Int32)))]) rfl ?_
  exact hk35 t_depths t_ways v1 (v2 + (1 : Int32)) _ h
theorem xh_rf_findDepths_57_66 {l : Launch} {g : xr_G} (ok : xr_OK xm_P) (A : Nat → Nat → Int32) (L : Nat → Nat → Int64) (S : Nat → Nat → Int32) (t_items : (Nat → Int32)) (t_lines : (Nat → Int32)) (t_numbers : (Nat → Int32)) (t_parts : (Nat → Int32)) (t_sorts : (Nat → Int32)) (t_values : (Nat → Int32)) {k27 : (Nat → Int32) → (Nat → Int64) → Int32 → Option (Unit × (Nat → Int32) × (Nat → Int64))} (hk27 : ∀ (t_depths : (Nat → Int32)) (t_ways : (Nat → Int64)) (v1 : Int32) (r : (Unit × (Nat → Int32) × (Nat → Int64))), k27 t_depths t_ways v1 = some r → xV xm_P l g (69, xm_i69, xm_I69, 0, 0, 27, [(0, .ref 59), (1, .int v1)], [], xw_W (xy_a (xy_a (xy_a (xy_a (xy_a (xy_a (xy_a A 74 t_depths) 73 t_items) 66 t_lines) 67 t_numbers) 70 t_parts) 71 t_sorts) 72 t_values) (xy_l L 76 t_ways) S) (.inl none, xw_W (xy_a (xy_a (xy_a (xy_a (xy_a (xy_a (xy_a A 74 r.2.1) 73 t_items) 66 t_lines) 67 t_numbers) 70 t_parts) 71 t_sorts) 72 t_values) (xy_l L 76 r.2.2) S)) {k35 : (Nat → Int32) → (Nat → Int64) → Int32 → Int32 → Option (Unit × (Nat → Int32) × (Nat → Int64))} (hk35 : ∀ (t_depths : (Nat → Int32)) (t_ways : (Nat → Int64)) (v1 : Int32) (v2 : Int32) (r : (Unit × (Nat → Int32) × (Nat → Int64))), k35 t_depths t_ways v1 v2 = some r → xV xm_P l g (69, xm_i69, xm_I69, 0, 0, 35, [(0, .ref 59), (1, .int v1), (2, .int v2)], [], xw_W (xy_a (xy_a (xy_a (xy_a (xy_a (xy_a (xy_a A 74 t_depths) 73 t_items) 66 t_lines) 67 t_numbers) 70 t_parts) 71 t_sorts) 72 t_values) (xy_l L 76 t_ways) S) (.inl none, xw_W (xy_a (xy_a (xy_a (xy_a (xy_a (xy_a (xy_a A 74 r.2.1) 73 t_items) 66 t_lines) 67 t_numbers) 70 t_parts) 71 t_sorts) 72 t_values) (xy_l L 76 r.2.2) S)) (n : Nat) : ∀ (N : Nat) (t_depths : (Nat → Int32)) (t_ways : (Nat → Int64)) (v1 : Int32) (v2 : Int32) (v3 : Int32) (v4 : Int32) (v5 : Int32) (r : (Unit × (Nat → Int32) × (Nat → Int64))), xf_rf_findDepths_66 t_items t_lines t_numbers t_parts t_sorts t_values k27 k35 n N t_depths t_ways v1 v2 v3 v4 v5 = some r → xV xm_P l g (69, xm_i69, xm_I69, 0, 0, 66, [(0, .ref 59), (1, .int v1), (2, .int v2), (3, .int v3), (4, .int v4), (5, .int v5)], [], xw_W (xy_a (xy_a (xy_a (xy_a (xy_a (xy_a (xy_a A 74 t_depths) 73 t_items) 66 t_lines) 67 t_numbers) 70 t_parts) 71 t_sorts) 72 t_values) (xy_l L 76 t_ways) S) (.inl none, xw_W (xy_a (xy_a (xy_a (xy_a (xy_a (xy_a (xy_a A 74 r.2.1) 73 t_items) 66 t_lines) 67 t_numbers) 70 t_parts) 71 t_sorts) 72 t_values) (xy_l L 76 r.2.2) S) := by
  intro N
  induction N with
  | zero => intro t_depths t_ways v1 v2 v3 v4 v5 r h; cases h
  | succ N hk66 =>
    intro t_depths t_ways v1 v2 v3 v4 v5 r h
    refine xe_seg ok 5 (G := (fun K => if xr_in ((0 : Int32)) 3 = true then K (69, xm_i69, xm_I69, 0, 0, 74, [(0, .ref 59), (1, .int v1), (2, .int v2), (3, .int v3), (4, .int v4), (5, .int v5)], [.int (t_lines ((0 : Int32)).toNatClampNeg), .int v5], xw_W (xy_a (xy_a (xy_a (xy_a (xy_a (xy_a (xy_a A 74 t_depths) 73 t_items) 66 t_lines) 67 t_numbers) 70 t_parts) 71 t_sorts) 72 t_values) (xy_l L 76 t_ways) S) else none)) (fun K => rfl) ?_
    obtain ⟨hg1032, h⟩ := xn_if h
    refine xe_pos hg1032 (xe_k ?_)
    refine xe_seg ok 1 (G := (fun K => if v5 < (t_lines ((0 : Int32)).toNatClampNeg) then K (69, xm_i69, xm_I69, 0, 0, 77, [(0, .ref 59), (1, .int v1), (2, .int v2), (3, .int v3), (4, .int v4), (5, .int v5)], [], xw_W (xy_a (xy_a (xy_a (xy_a (xy_a (xy_a (xy_a A 74 t_depths) 73 t_items) 66 t_lines) 67 t_numbers) 70 t_parts) 71 t_sorts) 72 t_values) (xy_l L 76 t_ways) S) else K (69, xm_i69, xm_I69, 0, 0, 152, [(0, .ref 59), (1, .int v1), (2, .int v2), (3, .int v3), (4, .int v4), (5, .int v5)], [], xw_W (xy_a (xy_a (xy_a (xy_a (xy_a (xy_a (xy_a A 74 t_depths) 73 t_items) 66 t_lines) 67 t_numbers) 70 t_parts) 71 t_sorts) 72 t_values) (xy_l L 76 t_ways) S))) (fun K => rfl) ?_
    rcases xb_if h with ⟨hc1033, h⟩ | ⟨hc1033, h⟩
    · refine xe_pos hc1033 (xe_k ?_)
      refine xe_seg ok 4 (G := (fun K => if xr_in v2 40 = true then K (69, xm_i69, xm_I69, 0, 0, 83, [(0, .ref 59), (1, .int v1), (2, .int v2), (3, .int v3), (4, .int v4), (5, .int v5)], [.long (t_ways v2.toNatClampNeg)], xw_W (xy_a (xy_a (xy_a (xy_a (xy_a (xy_a (xy_a A 74 t_depths) 73 t_items) 66 t_lines) 67 t_numbers) 70 t_parts) 71 t_sorts) 72 t_values) (xy_l L 76 t_ways) S) else none)) (fun K => rfl) ?_
      obtain ⟨hg1034, h⟩ := xn_if h
      refine xe_pos hg1034 (xe_k ?_)
      refine xe_seg ok 7 (G := (fun K => if (lg_cmp ((xe_shr (t_ways v2.toNatClampNeg) v5) &&& ((1 : Int64))) ((0 : Int64))) = (0 : Int32) then K (69, xm_i69, xm_I69, 0, 0, 93, [(0, .ref 59), (1, .int v1), (2, .int v2), (3, .int v3), (4, .int v4), (5, .int v5)], [], xw_W (xy_a (xy_a (xy_a (xy_a (xy_a (xy_a (xy_a A 74 t_depths) 73 t_items) 66 t_lines) 67 t_numbers) 70 t_parts) 71 t_sorts) 72 t_values) (xy_l L 76 t_ways) S) else K (69, xm_i69, xm_I69, 0, 0, 96, [(0, .ref 59), (1, .int v1), (2, .int v2), (3, .int v3), (4, .int v4), (5, .int v5)], [], xw_W (xy_a (xy_a (xy_a (xy_a (xy_a (xy_a (xy_a A 74 t_depths) 73 t_items) 66 t_lines) 67 t_numbers) 70 t_parts) 71 t_sorts) 72 t_values) (xy_l L 76 t_ways) S))) (fun K => rfl) ?_
      rcases xb_if h with ⟨hc1035, h⟩ | ⟨hc1035, h⟩
      · refine xe_pos hc1035 (xe_k ?_)
        refine xe_seg ok 1 (G := (fun K => K (69, xm_i69, xm_I69, 0, 0, 146, [(0, .ref 59), (1, .int v1), (2, .int v2), (3, .int v3), (4, .int v4), (5, .int v5)], [], xw_W (xy_a (xy_a (xy_a (xy_a (xy_a (xy_a (xy_a A 74 t_depths) 73 t_items) 66 t_lines) 67 t_numbers) 70 t_parts) 71 t_sorts) 72 t_values) (xy_l L 76 t_ways) S))) (fun K => rfl) ?_
        refine xe_k ?_
        refine xe_sub [true, true, true, true, true, true] (lv' := [(0, .ref 59), (1, .int v1), (2, .int v2), (3, .int v3), (4, .int v4), (5, .int v5)]) rfl ?_
        exact xh_rf_findDepths_57_146 ok A L S t_items t_lines t_numbers t_parts t_sorts t_values hk27 hk35 hk66 n t_depths t_ways v1 v2 v3 v4 v5 _ h
      · refine xe_neg hc1035 (xe_k ?_)
        refine xe_seg ok 2 (G := (fun K => if v4 = (0 : Int32) then K (69, xm_i69, xm_I69, 0, 0, 116, [(0, .ref 59), (1, .int v1), (2, .int v2), (3, .int v3), (4, .int v4), (5, .int v5)], [], xw_W (xy_a (xy_a (xy_a (xy_a (xy_a (xy_a (xy_a A 74 t_depths) 73 t_items) 66 t_lines) 67 t_numbers) 70 t_parts) 71 t_sorts) 72 t_values) (xy_l L 76 t_ways) S) else K (69, xm_i69, xm_I69, 0, 0, 101, [(0, .ref 59), (1, .int v1), (2, .int v2), (3, .int v3), (4, .int v4), (5, .int v5)], [], xw_W (xy_a (xy_a (xy_a (xy_a (xy_a (xy_a (xy_a A 74 t_depths) 73 t_items) 66 t_lines) 67 t_numbers) 70 t_parts) 71 t_sorts) 72 t_values) (xy_l L 76 t_ways) S))) (fun K => rfl) ?_
        rcases xb_if h with ⟨hc1036, h⟩ | ⟨hc1036, h⟩
        · refine xe_pos hc1036 (xe_k ?_)
          refine xe_sub [true, true, true, true, false, true] (lv' := [(0, .ref 59), (1, .int v1), (2, .int v2), (3, .int v3), (5, .int v5)]) rfl ?_
          exact xh_rf_findDepths_57_116 ok A L S t_items t_lines t_numbers t_parts t_sorts t_values hk27 hk35 hk66 n t_depths t_ways v1 v2 v3 v5 _ h
        · refine xe_neg hc1036 (xe_k ?_)
          refine xe_seg ok 4 (G := (fun K => if xr_in v5 40 = true then K (69, xm_i69, xm_I69, 0, 0, 108, [(0, .ref 59), (1, .int v1), (2, .int v2), (3, .int v3), (4, .int v4), (5, .int v5)], [.int (t_depths v5.toNatClampNeg)], xw_W (xy_a (xy_a (xy_a (xy_a (xy_a (xy_a (xy_a A 74 t_depths) 73 t_items) 66 t_lines) 67 t_numbers) 70 t_parts) 71 t_sorts) 72 t_values) (xy_l L 76 t_ways) S) else none)) (fun K => rfl) ?_
          obtain ⟨hg1040, h⟩ := xn_if h
          refine xe_pos hg1040 (xe_k ?_)
          refine xe_seg ok 2 (G := (fun K => if (t_depths v5.toNatClampNeg) = ((-1 : Int32)) then K (69, xm_i69, xm_I69, 0, 0, 116, [(0, .ref 59), (1, .int v1), (2, .int v2), (3, .int v3), (4, .int v4), (5, .int v5)], [], xw_W (xy_a (xy_a (xy_a (xy_a (xy_a (xy_a (xy_a A 74 t_depths) 73 t_items) 66 t_lines) 67 t_numbers) 70 t_parts) 71 t_sorts) 72 t_values) (xy_l L 76 t_ways) S) else K (69, xm_i69, xm_I69, 0, 0, 112, [(0, .ref 59), (1, .int v1), (2, .int v2), (3, .int v3), (4, .int v4), (5, .int v5)], [], xw_W (xy_a (xy_a (xy_a (xy_a (xy_a (xy_a (xy_a A 74 t_depths) 73 t_items) 66 t_lines) 67 t_numbers) 70 t_parts) 71 t_sorts) 72 t_values) (xy_l L 76 t_ways) S))) (fun K => rfl) ?_
          rcases xb_if h with ⟨hc1041, h⟩ | ⟨hc1041, h⟩
          · refine xe_pos hc1041 (xe_k ?_)
            refine xe_sub [true, true, true, true, false, true] (lv' := [(0, .ref 59), (1, .int v1), (2, .int v2), (3, .int v3), (5, .int v5)]) rfl ?_
            exact xh_rf_findDepths_57_116 ok A L S t_items t_lines t_numbers t_parts t_sorts t_values hk27 hk35 hk66 n t_depths t_ways v1 v2 v3 v5 _ h
          · refine xe_neg hc1041 (xe_k ?_)
            refine xe_seg ok 2 (G := (fun K => K (69, xm_i69, xm_I69, 0, 0, 117, [(0, .ref 59), (1, .int v1), (2, .int v2), (3, .int v3), (4, .int v4), (5, .int v5)], [.int ((1 : Int32))], xw_W (xy_a (xy_a (xy_a (xy_a (xy_a (xy_a (xy_a A 74 t_depths) 73 t_items) 66 t_lines) 67 t_numbers) 70 t_parts) 71 t_sorts) 72 t_values) (xy_l L 76 t_ways) S))) (fun K => rfl) ?_
            refine xe_k ?_
            refine xe_sub [true, true, true, true, false, true] (lv' := [(0, .ref 59), (1, .int v1), (2, .int v2), (3, .int v3), (5, .int v5)]) rfl ?_
            exact xh_rf_findDepths_57_117 ok A L S t_items t_lines t_numbers t_parts t_sorts t_values hk27 hk35 hk66 n t_depths t_ways v1 v2 v3 v5 ((1 : Int32)) _ h
    · refine xe_neg hc1033 (xe_k ?_)
      refine xe_seg ok 2 (G := (fun K => if v4 = (0 : Int32) then K (69, xm_i69, xm_I69, 0, 0, 166, [(0, .ref 59), (1, .int v1), (2, .int v2), (3, .int v3), (4, .int v4), (5, .int v5)], [], xw_W (xy_a (xy_a (xy_a (xy_a (xy_a (xy_a (xy_a A 74 t_depths) 73 t_items) 66 t_lines) 67 t_numbers) 70 t_parts) 71 t_sorts) 72 t_values) (xy_l L 76 t_ways) S) else K (69, xm_i69, xm_I69, 0, 0, 157, [(0, .ref 59), (1, .int v1), (2, .int v2), (3, .int v3), (4, .int v4), (5, .int v5)], [], xw_W (xy_a (xy_a (xy_a (xy_a (xy_a (xy_a (xy_a A 74 t_depths) 73 t_items) 66 t_lines) 67 t_numbers) 70 t_parts) 71 t_sorts) 72 t_values) (xy_l L 76 t_ways) S))) (fun K => rfl) ?_
      rcases xb_if h with ⟨hc1042, h⟩ | ⟨hc1042, h⟩
      · refine xe_pos hc1042 (xe_k ?_)
        refine xe_sub [true, true, true, false, false, false] (lv' := [(0, .ref 59), (1, .int v1), (2, .int v2)]) rfl ?_
        exact xh_rf_findDepths_57_166 ok A L S t_items t_lines t_numbers t_parts t_sorts t_values hk27 hk35 n t_depths t_ways v1 v2 _ h
      · refine xe_neg hc1042 (xe_k ?_)
        refine xe_seg ok 5 (G := (fun K => if xr_in v2 40 = true then K (69, xm_i69, xm_I69, 0, 0, 164, [(0, .ref 59), (1, .int v1), (2, .int v2), (3, .int v3), (4, .int v4), (5, .int v5)], [], xw_W (xy_a (xy_a (xy_a (xy_a (xy_a (xy_a (xy_a A 74 (upd t_depths v2.toNatClampNeg v3)) 73 t_items) 66 t_lines) 67 t_numbers) 70 t_parts) 71 t_sorts) 72 t_values) (xy_l L 76 t_ways) S) else none)) (fun K => rfl) ?_
        obtain ⟨hg1043, h⟩ := xn_if h
        refine xe_pos hg1043 (xe_k ?_)
        refine xe_seg ok 2 (G := (fun K => K (69, xm_i69, xm_I69, 0, 0, 166, [(0, .ref 59), (1, .int ((1 : Int32))), (2, .int v2), (3, .int v3), (4, .int v4), (5, .int v5)], [], xw_W (xy_a (xy_a (xy_a (xy_a (xy_a (xy_a (xy_a A 74 (upd t_depths v2.toNatClampNeg v3)) 73 t_items) 66 t_lines) 67 t_numbers) 70 t_parts) 71 t_sorts) 72 t_values) (xy_l L 76 t_ways) S))) (fun K => rfl) ?_
        refine xe_k ?_
        refine xe_sub [true, true, true, false, false, false] (lv' := [(0, .ref 59), (1, .int ((1 : Int32))), (2, .int v2)]) rfl ?_
        exact xh_rf_findDepths_57_166 ok A L S t_items t_lines t_numbers t_parts t_sorts t_values hk27 hk35 n (upd t_depths v2.toNatClampNeg v3) t_ways ((1 : Int32)) v2 _ h
theorem xh_rf_findDepths_57_35 {l : Launch} {g : xr_G} (ok : xr_OK xm_P) (A : Nat → Nat → Int32) (L : Nat → Nat → Int64) (S : Nat → Nat → Int32) (t_items : (Nat → Int32)) (t_lines : (Nat → Int32)) (t_numbers : (Nat → Int32)) (t_parts : (Nat → Int32)) (t_sorts : (Nat → Int32)) (t_values : (Nat → Int32)) {k27 : (Nat → Int32) → (Nat → Int64) → Int32 → Option (Unit × (Nat → Int32) × (Nat → Int64))} (hk27 : ∀ (t_depths : (Nat → Int32)) (t_ways : (Nat → Int64)) (v1 : Int32) (r : (Unit × (Nat → Int32) × (Nat → Int64))), k27 t_depths t_ways v1 = some r → xV xm_P l g (69, xm_i69, xm_I69, 0, 0, 27, [(0, .ref 59), (1, .int v1)], [], xw_W (xy_a (xy_a (xy_a (xy_a (xy_a (xy_a (xy_a A 74 t_depths) 73 t_items) 66 t_lines) 67 t_numbers) 70 t_parts) 71 t_sorts) 72 t_values) (xy_l L 76 t_ways) S) (.inl none, xw_W (xy_a (xy_a (xy_a (xy_a (xy_a (xy_a (xy_a A 74 r.2.1) 73 t_items) 66 t_lines) 67 t_numbers) 70 t_parts) 71 t_sorts) 72 t_values) (xy_l L 76 r.2.2) S)) (n : Nat) : ∀ (N : Nat) (t_depths : (Nat → Int32)) (t_ways : (Nat → Int64)) (v1 : Int32) (v2 : Int32) (r : (Unit × (Nat → Int32) × (Nat → Int64))), xf_rf_findDepths_35 t_items t_lines t_numbers t_parts t_sorts t_values k27 n N t_depths t_ways v1 v2 = some r → xV xm_P l g (69, xm_i69, xm_I69, 0, 0, 35, [(0, .ref 59), (1, .int v1), (2, .int v2)], [], xw_W (xy_a (xy_a (xy_a (xy_a (xy_a (xy_a (xy_a A 74 t_depths) 73 t_items) 66 t_lines) 67 t_numbers) 70 t_parts) 71 t_sorts) 72 t_values) (xy_l L 76 t_ways) S) (.inl none, xw_W (xy_a (xy_a (xy_a (xy_a (xy_a (xy_a (xy_a A 74 r.2.1) 73 t_items) 66 t_lines) 67 t_numbers) 70 t_parts) 71 t_sorts) 72 t_values) (xy_l L 76 r.2.2) S) := by
  intro N
  induction N with
  | zero => intro t_depths t_ways v1 v2 r h; cases h
  | succ N hk35 =>
    intro t_depths t_ways v1 v2 r h
    refine xe_seg ok 5 (G := (fun K => if xr_in ((0 : Int32)) 3 = true then K (69, xm_i69, xm_I69, 0, 0, 42, [(0, .ref 59), (1, .int v1), (2, .int v2)], [.int (t_lines ((0 : Int32)).toNatClampNeg), .int v2], xw_W (xy_a (xy_a (xy_a (xy_a (xy_a (xy_a (xy_a A 74 t_depths) 73 t_items) 66 t_lines) 67 t_numbers) 70 t_parts) 71 t_sorts) 72 t_values) (xy_l L 76 t_ways) S) else none)) (fun K => rfl) ?_
    obtain ⟨hg1028, h⟩ := xn_if h
    refine xe_pos hg1028 (xe_k ?_)
    refine xe_seg ok 1 (G := (fun K => if v2 < (t_lines ((0 : Int32)).toNatClampNeg) then K (69, xm_i69, xm_I69, 0, 0, 45, [(0, .ref 59), (1, .int v1), (2, .int v2)], [], xw_W (xy_a (xy_a (xy_a (xy_a (xy_a (xy_a (xy_a A 74 t_depths) 73 t_items) 66 t_lines) 67 t_numbers) 70 t_parts) 71 t_sorts) 72 t_values) (xy_l L 76 t_ways) S) else K (69, xm_i69, xm_I69, 0, 0, 172, [(0, .ref 59), (1, .int v1), (2, .int v2)], [], xw_W (xy_a (xy_a (xy_a (xy_a (xy_a (xy_a (xy_a A 74 t_depths) 73 t_items) 66 t_lines) 67 t_numbers) 70 t_parts) 71 t_sorts) 72 t_values) (xy_l L 76 t_ways) S))) (fun K => rfl) ?_
    rcases xb_if h with ⟨hc1029, h⟩ | ⟨hc1029, h⟩
    · refine xe_pos hc1029 (xe_k ?_)
      refine xe_seg ok 4 (G := (fun K => if xr_in v2 40 = true then K (69, xm_i69, xm_I69, 0, 0, 51, [(0, .ref 59), (1, .int v1), (2, .int v2)], [.int (t_depths v2.toNatClampNeg)], xw_W (xy_a (xy_a (xy_a (xy_a (xy_a (xy_a (xy_a A 74 t_depths) 73 t_items) 66 t_lines) 67 t_numbers) 70 t_parts) 71 t_sorts) 72 t_values) (xy_l L 76 t_ways) S) else none)) (fun K => rfl) ?_
      obtain ⟨hg1030, h⟩ := xn_if h
      refine xe_pos hg1030 (xe_k ?_)
      refine xe_seg ok 2 (G := (fun K => if (t_depths v2.toNatClampNeg) = ((-1 : Int32)) then K (69, xm_i69, xm_I69, 0, 0, 58, [(0, .ref 59), (1, .int v1), (2, .int v2)], [], xw_W (xy_a (xy_a (xy_a (xy_a (xy_a (xy_a (xy_a A 74 t_depths) 73 t_items) 66 t_lines) 67 t_numbers) 70 t_parts) 71 t_sorts) 72 t_values) (xy_l L 76 t_ways) S) else K (69, xm_i69, xm_I69, 0, 0, 55, [(0, .ref 59), (1, .int v1), (2, .int v2)], [], xw_W (xy_a (xy_a (xy_a (xy_a (xy_a (xy_a (xy_a A 74 t_depths) 73 t_items) 66 t_lines) 67 t_numbers) 70 t_parts) 71 t_sorts) 72 t_values) (xy_l L 76 t_ways) S))) (fun K => rfl) ?_
      rcases xb_if h with ⟨hc1031, h⟩ | ⟨hc1031, h⟩
      · refine xe_pos hc1031 (xe_k ?_)
        refine xe_seg ok 6 (G := (fun K => K (69, xm_i69, xm_I69, 0, 0, 66, [(0, .ref 59), (1, .int v1), (2, .int v2), (3, .int ((0 : Int32))), (4, .int ((1 : Int32))), (5, .int ((0 : Int32)))], [], xw_W (xy_a (xy_a (xy_a (xy_a (xy_a (xy_a (xy_a A 74 t_depths) 73 t_items) 66 t_lines) 67 t_numbers) 70 t_parts) 71 t_sorts) 72 t_values) (xy_l L 76 t_ways) S))) (fun K => rfl) ?_
        refine xe_k ?_
        refine xe_sub [true, true, true, true, true, true] (lv' := [(0, .ref 59), (1, .int v1), (2, .int v2), (3, .int ((0 : Int32))), (4, .int ((1 : Int32))), (5, .int ((0 : Int32)))]) rfl ?_
        exact xh_rf_findDepths_57_66 ok A L S t_items t_lines t_numbers t_parts t_sorts t_values hk27 hk35 n n t_depths t_ways v1 v2 ((0 : Int32)) ((1 : Int32)) ((0 : Int32)) _ h
      · refine xe_neg hc1031 (xe_k ?_)
        refine xe_seg ok 1 (G := (fun K => K (69, xm_i69, xm_I69, 0, 0, 166, [(0, .ref 59), (1, .int v1), (2, .int v2)], [], xw_W (xy_a (xy_a (xy_a (xy_a (xy_a (xy_a (xy_a A 74 t_depths) 73 t_items) 66 t_lines) 67 t_numbers) 70 t_parts) 71 t_sorts) 72 t_values) (xy_l L 76 t_ways) S))) (fun K => rfl) ?_
        refine xe_k ?_
        refine xe_sub [true, true, true] (lv' := [(0, .ref 59), (1, .int v1), (2, .int v2)]) rfl ?_
        exact xh_rf_findDepths_57_166 ok A L S t_items t_lines t_numbers t_parts t_sorts t_values hk27 hk35 n t_depths t_ways v1 v2 _ h
    · refine xe_neg hc1029 (xe_k ?_)
      refine xe_seg ok 1 (G := (fun K => K (69, xm_i69, xm_I69, 0, 0, 27, [(0, .ref 59), (1, .int v1), (2, .int v2)], [], xw_W (xy_a (xy_a (xy_a (xy_a (xy_a (xy_a (xy_a A 74 t_depths) 73 t_items) 66 t_lines) 67 t_numbers) 70 t_parts) 71 t_sorts) 72 t_values) (xy_l L 76 t_ways) S))) (fun K => rfl) ?_
      refine xe_k ?_
      refine xe_sub [true, true, false] (lv' := [(0, .ref 59), (1, .int v1)]) rfl ?_
      exact hk27 t_depths t_ways v1 _ h
theorem xh_rf_findDepths_57_27 {l : Launch} {g : xr_G} (ok : xr_OK xm_P) (A : Nat → Nat → Int32) (L : Nat → Nat → Int64) (S : Nat → Nat → Int32) (t_items : (Nat → Int32)) (t_lines : (Nat → Int32)) (t_numbers : (Nat → Int32)) (t_parts : (Nat → Int32)) (t_sorts : (Nat → Int32)) (t_values : (Nat → Int32)) (n : Nat) : ∀ (N : Nat) (t_depths : (Nat → Int32)) (t_ways : (Nat → Int64)) (v1 : Int32) (r : (Unit × (Nat → Int32) × (Nat → Int64))), xf_rf_findDepths_27 t_items t_lines t_numbers t_parts t_sorts t_values n N t_depths t_ways v1 = some r → xV xm_P l g (69, xm_i69, xm_I69, 0, 0, 27, [(0, .ref 59), (1, .int v1)], [], xw_W (xy_a (xy_a (xy_a (xy_a (xy_a (xy_a (xy_a A 74 t_depths) 73 t_items) 66 t_lines) 67 t_numbers) 70 t_parts) 71 t_sorts) 72 t_values) (xy_l L 76 t_ways) S) (.inl none, xw_W (xy_a (xy_a (xy_a (xy_a (xy_a (xy_a (xy_a A 74 r.2.1) 73 t_items) 66 t_lines) 67 t_numbers) 70 t_parts) 71 t_sorts) 72 t_values) (xy_l L 76 r.2.2) S) := by
  intro N
  induction N with
  | zero => intro t_depths t_ways v1 r h; cases h
  | succ N hk27 =>
    intro t_depths t_ways v1 r h
    refine xe_seg ok 2 (G := (fun K => if v1 = (0 : Int32) then K (69, xm_i69, xm_I69, 0, 0, 175, [(0, .ref 59), (1, .int v1)], [], xw_W (xy_a (xy_a (xy_a (xy_a (xy_a (xy_a (xy_a A 74 t_depths) 73 t_items) 66 t_lines) 67 t_numbers) 70 t_parts) 71 t_sorts) 72 t_values) (xy_l L 76 t_ways) S) else K (69, xm_i69, xm_I69, 0, 0, 31, [(0, .ref 59), (1, .int v1)], [], xw_W (xy_a (xy_a (xy_a (xy_a (xy_a (xy_a (xy_a A 74 t_depths) 73 t_items) 66 t_lines) 67 t_numbers) 70 t_parts) 71 t_sorts) 72 t_values) (xy_l L 76 t_ways) S))) (fun K => rfl) ?_
    rcases xb_if h with ⟨hc1027, h⟩ | ⟨hc1027, h⟩
    · refine xe_pos hc1027 (xe_k ?_)
      obtain rfl := Option.some.inj h
      refine xe_seg ok 1 (G := (fun _ => some (.inl none, xw_W (xy_a (xy_a (xy_a (xy_a (xy_a (xy_a (xy_a A 74 t_depths) 73 t_items) 66 t_lines) 67 t_numbers) 70 t_parts) 71 t_sorts) 72 t_values) (xy_l L 76 t_ways) S))) (fun K => rfl) ?_
      exact xe_ret
    · refine xe_neg hc1027 (xe_k ?_)
      refine xe_seg ok 4 (G := (fun K => K (69, xm_i69, xm_I69, 0, 0, 35, [(0, .ref 59), (1, .int ((0 : Int32))), (2, .int ((0 : Int32)))], [], xw_W (xy_a (xy_a (xy_a (xy_a (xy_a (xy_a (xy_a A 74 t_depths) 73 t_items) 66 t_lines) 67 t_numbers) 70 t_parts) 71 t_sorts) 72 t_values) (xy_l L 76 t_ways) S))) (fun K => rfl) ?_
      refine xe_k ?_
      refine xe_sub [true, true, true] (lv' := [(0, .ref 59), (1, .int ((0 : Int32))), (2, .int ((0 : Int32)))]) rfl ?_
      exact xh_rf_findDepths_57_35 ok A L S t_items t_lines t_numbers t_parts t_sorts t_values hk27 n n t_depths t_ways ((0 : Int32)) ((0 : Int32)) _ h
theorem xh_rf_findDepths_57_6 {l : Launch} {g : xr_G} (ok : xr_OK xm_P) (A : Nat → Nat → Int32) (L : Nat → Nat → Int64) (S : Nat → Nat → Int32) (t_items : (Nat → Int32)) (t_lines : (Nat → Int32)) (t_numbers : (Nat → Int32)) (t_parts : (Nat → Int32)) (t_sorts : (Nat → Int32)) (t_values : (Nat → Int32)) (n : Nat) : ∀ (N : Nat) (t_depths : (Nat → Int32)) (t_ways : (Nat → Int64)) (v1 : Int32) (r : (Unit × (Nat → Int32) × (Nat → Int64))), xf_rf_findDepths_6 t_items t_lines t_numbers t_parts t_sorts t_values n N t_depths t_ways v1 = some r → xV xm_P l g (69, xm_i69, xm_I69, 0, 0, 6, [(0, .ref 59), (1, .int v1)], [], xw_W (xy_a (xy_a (xy_a (xy_a (xy_a (xy_a (xy_a A 74 t_depths) 73 t_items) 66 t_lines) 67 t_numbers) 70 t_parts) 71 t_sorts) 72 t_values) (xy_l L 76 t_ways) S) (.inl none, xw_W (xy_a (xy_a (xy_a (xy_a (xy_a (xy_a (xy_a A 74 r.2.1) 73 t_items) 66 t_lines) 67 t_numbers) 70 t_parts) 71 t_sorts) 72 t_values) (xy_l L 76 r.2.2) S) := by
  intro N
  induction N with
  | zero => intro t_depths t_ways v1 r h; cases h
  | succ N hk6 =>
    intro t_depths t_ways v1 r h
    refine xe_seg ok 3 (G := (fun K => if v1 < ((40 : Int32)) then K (69, xm_i69, xm_I69, 0, 0, 12, [(0, .ref 59), (1, .int v1)], [], xw_W (xy_a (xy_a (xy_a (xy_a (xy_a (xy_a (xy_a A 74 t_depths) 73 t_items) 66 t_lines) 67 t_numbers) 70 t_parts) 71 t_sorts) 72 t_values) (xy_l L 76 t_ways) S) else K (69, xm_i69, xm_I69, 0, 0, 25, [(0, .ref 59), (1, .int v1)], [], xw_W (xy_a (xy_a (xy_a (xy_a (xy_a (xy_a (xy_a A 74 t_depths) 73 t_items) 66 t_lines) 67 t_numbers) 70 t_parts) 71 t_sorts) 72 t_values) (xy_l L 76 t_ways) S))) (fun K => rfl) ?_
    rcases xb_if h with ⟨hc1025, h⟩ | ⟨hc1025, h⟩
    · refine xe_pos hc1025 (xe_k ?_)
      refine xe_seg ok 5 (G := (fun K => if xr_in v1 40 = true then K (69, xm_i69, xm_I69, 0, 0, 19, [(0, .ref 59), (1, .int v1)], [], xw_W (xy_a (xy_a (xy_a (xy_a (xy_a (xy_a (xy_a A 74 (upd t_depths v1.toNatClampNeg (((-1 : Int32))))) 73 t_items) 66 t_lines) 67 t_numbers) 70 t_parts) 71 t_sorts) 72 t_values) (xy_l L 76 t_ways) S) else none)) (fun K => rfl) ?_
      obtain ⟨hg1026, h⟩ := xn_if h
      refine xe_pos hg1026 (xe_k ?_)
      refine xe_seg ok 2 (G := (fun K => K (69, xm_i69, xm_I69, 0, 0, 6, [(0, .ref 59), (1, .int (v1 + (1 : Int32)))], [], xw_W (xy_a (xy_a (xy_a (xy_a (xy_a (xy_a (xy_a A 74 (upd t_depths v1.toNatClampNeg (((-1 : Int32))))) 73 t_items) 66 t_lines) 67 t_numbers) 70 t_parts) 71 t_sorts) 72 t_values) (xy_l L 76 t_ways) S))) (fun K => rfl) ?_
      refine xe_k ?_
      refine xe_sub [true, true] (lv' := [(0, .ref 59), (1, .int (v1 + (1 : Int32)))]) rfl ?_
      exact hk6 (upd t_depths v1.toNatClampNeg (((-1 : Int32)))) t_ways (v1 + (1 : Int32)) _ h
    · refine xe_neg hc1025 (xe_k ?_)
      refine xe_seg ok 2 (G := (fun K => K (69, xm_i69, xm_I69, 0, 0, 27, [(0, .ref 59), (1, .int ((1 : Int32)))], [], xw_W (xy_a (xy_a (xy_a (xy_a (xy_a (xy_a (xy_a A 74 t_depths) 73 t_items) 66 t_lines) 67 t_numbers) 70 t_parts) 71 t_sorts) 72 t_values) (xy_l L 76 t_ways) S))) (fun K => rfl) ?_
      refine xe_k ?_
      refine xe_sub [true, true] (lv' := [(0, .ref 59), (1, .int ((1 : Int32)))]) rfl ?_
      exact xh_rf_findDepths_57_27 ok A L S t_items t_lines t_numbers t_parts t_sorts t_values n n t_depths t_ways ((1 : Int32)) _ h
theorem xh_rf_findDepths_57 {l : Launch} {g : xr_G} (ok : xr_OK xm_P) (A : Nat → Nat → Int32) (L : Nat → Nat → Int64) (S : Nat → Nat → Int32) (t_items : (Nat → Int32)) (t_lines : (Nat → Int32)) (t_numbers : (Nat → Int32)) (t_parts : (Nat → Int32)) (t_sorts : (Nat → Int32)) (t_values : (Nat → Int32)) (n : Nat) : ∀ (t_depths : (Nat → Int32)) (t_ways : (Nat → Int64)) (r : (Unit × (Nat → Int32) × (Nat → Int64))), xf_rf_findDepths t_items t_lines t_numbers t_parts t_sorts t_values n t_depths t_ways = some r → xV xm_P l g (69, xm_i69, xm_I69, 0, 0, 0, [(0, .ref 59)], [], xw_W (xy_a (xy_a (xy_a (xy_a (xy_a (xy_a (xy_a A 74 t_depths) 73 t_items) 66 t_lines) 67 t_numbers) 70 t_parts) 71 t_sorts) 72 t_values) (xy_l L 76 t_ways) S) (.inl none, xw_W (xy_a (xy_a (xy_a (xy_a (xy_a (xy_a (xy_a A 74 r.2.1) 73 t_items) 66 t_lines) 67 t_numbers) 70 t_parts) 71 t_sorts) 72 t_values) (xy_l L 76 r.2.2) S) := by
  intro t_depths t_ways r h
  unfold xf_rf_findDepths at h
  refine xe_seg ok 2 (G := (fun K => xr_back K 69 xm_i69 xm_I69 0 0 1 [(0, .ref 59)] [] 78 true (K (68, xm_i68, xm_I68, 0, 0, 0, [(0, .ref 59)], [], xw_W (xy_a (xy_a (xy_a (xy_a (xy_a (xy_a (xy_a A 74 t_depths) 73 t_items) 66 t_lines) 67 t_numbers) 70 t_parts) 71 t_sorts) 72 t_values) (xy_l L 76 t_ways) S)))) (fun K => rfl) ?_
  obtain ⟨q1024, hq1024, h⟩ := Option.bind_eq_some_iff.mp h
  have heq1024 := xh_rf_findWays_57 (l := l) (g := g) ok (xy_a (xy_a (xy_a (xy_a (xy_a (xy_a (xy_a A 74 t_depths) 73 t_items) 66 t_lines) 67 t_numbers) 70 t_parts) 71 t_sorts) 72 t_values) (xy_l L 76 t_ways) S t_items t_lines t_numbers t_parts t_sorts t_values n t_ways _ hq1024
  refine xe_call0 (ws' := xw_W (xy_a (xy_a (xy_a (xy_a (xy_a (xy_a (xy_a A 74 t_depths) 73 t_items) 66 t_lines) 67 t_numbers) 70 t_parts) 71 t_sorts) 72 t_values) (xy_l L 76 q1024.2) S) (by decide) heq1024 (Or.inl rfl) ?_
  refine xe_seg ok 2 (G := (fun K => K (69, xm_i69, xm_I69, 0, 0, 6, [(0, .ref 59), (1, .int ((0 : Int32)))], [], xw_W (xy_a (xy_a (xy_a (xy_a (xy_a (xy_a (xy_a A 74 t_depths) 73 t_items) 66 t_lines) 67 t_numbers) 70 t_parts) 71 t_sorts) 72 t_values) (xy_l L 76 q1024.2) S))) (fun K => rfl) ?_
  refine xe_k ?_
  refine xe_sub [true, true] (lv' := [(0, .ref 59), (1, .int ((0 : Int32)))]) rfl ?_
  exact xh_rf_findDepths_57_6 ok A L S t_items t_lines t_numbers t_parts t_sorts t_values n n t_depths q1024.2 ((0 : Int32)) _ h
theorem xh_rf_isSame_62_69_38 {l : Launch} {g : xr_G} (ok : xr_OK xm_P) (A : Nat → Nat → Int32) (L : Nat → Nat → Int64) (S : Nat → Nat → Int32) (p1 : (Nat → Int32)) (p3 : (Nat → Int32)) (n_p1 : Nat) (n_p3 : Nat) {k6 : Int32 → Int32 → Int32 → Int32 → Int32 → Option (Int32)} (hk6 : ∀ (v1 : Int32) (v3 : Int32) (v4 : Int32) (v5 : Int32) (v6 : Int32) (r : (Int32)), k6 v1 v3 v4 v5 v6 = some r → xV xm_P l g (47, xm_i47, xm_I47, 0, 0, 6, [(0, .ref 64), (1, .int v1), (2, .ref 71), (3, .int v3), (4, .int v4), (5, .int v5), (6, .int v6)], [], xw_W (xy_a (xy_a A 62 p1) 69 p3) L S) (.inl (some (.int r)), xw_W (xy_a (xy_a A 62 p1) 69 p3) L S)) (n : Nat) : ∀ (v1 : Int32) (v3 : Int32) (v4 : Int32) (v6 : Int32) (s0 : Int32) (r : (Int32)), xf_rf_isSame_38 p1 p3 n_p1 n_p3 k6 n v1 v3 v4 v6 s0 = some r → xV xm_P l g (47, xm_i47, xm_I47, 0, 0, 38, [(0, .ref 64), (1, .int v1), (2, .ref 71), (3, .int v3), (4, .int v4), (6, .int v6)], [.int s0], xw_W (xy_a (xy_a A 62 p1) 69 p3) L S) (.inl (some (.int r)), xw_W (xy_a (xy_a A 62 p1) 69 p3) L S) := by
  intro v1 v3 v4 v6 s0 r h
  unfold xf_rf_isSame_38 at h
  refine xe_seg ok 3 (G := (fun K => K (47, xm_i47, xm_I47, 0, 0, 6, [(0, .ref 64), (1, .int v1), (2, .ref 71), (3, .int v3), (4, .int v4), (5, .int s0), (6, .int (v6 + (1 : Int32)))], [], xw_W (xy_a (xy_a A 62 p1) 69 p3) L S))) (fun K => rfl) ?_
  refine xe_k ?_
  refine xe_sub [true, true, true, true, true, true, true] (lv' := [(0, .ref 64), (1, .int v1), (2, .ref 71), (3, .int v3), (4, .int v4), (5, .int s0), (6, .int (v6 + (1 : Int32)))]) rfl ?_
  exact hk6 v1 v3 v4 s0 (v6 + (1 : Int32)) _ h
theorem xh_rf_isSame_62_69_37 {l : Launch} {g : xr_G} (ok : xr_OK xm_P) (A : Nat → Nat → Int32) (L : Nat → Nat → Int64) (S : Nat → Nat → Int32) (p1 : (Nat → Int32)) (p3 : (Nat → Int32)) (n_p1 : Nat) (n_p3 : Nat) {k6 : Int32 → Int32 → Int32 → Int32 → Int32 → Option (Int32)} (hk6 : ∀ (v1 : Int32) (v3 : Int32) (v4 : Int32) (v5 : Int32) (v6 : Int32) (r : (Int32)), k6 v1 v3 v4 v5 v6 = some r → xV xm_P l g (47, xm_i47, xm_I47, 0, 0, 6, [(0, .ref 64), (1, .int v1), (2, .ref 71), (3, .int v3), (4, .int v4), (5, .int v5), (6, .int v6)], [], xw_W (xy_a (xy_a A 62 p1) 69 p3) L S) (.inl (some (.int r)), xw_W (xy_a (xy_a A 62 p1) 69 p3) L S)) (n : Nat) : ∀ (v1 : Int32) (v3 : Int32) (v4 : Int32) (v6 : Int32) (r : (Int32)), xf_rf_isSame_37 p1 p3 n_p1 n_p3 k6 n v1 v3 v4 v6 = some r → xV xm_P l g (47, xm_i47, xm_I47, 0, 0, 37, [(0, .ref 64), (1, .int v1), (2, .ref 71), (3, .int v3), (4, .int v4), (6, .int v6)], [], xw_W (xy_a (xy_a A 62 p1) 69 p3) L S) (.inl (some (.int r)), xw_W (xy_a (xy_a A 62 p1) 69 p3) L S) := by
  intro v1 v3 v4 v6 r h
  unfold xf_rf_isSame_37 at h
  refine xe_seg ok 1 (G := (fun K => K (47, xm_i47, xm_I47, 0, 0, 38, [(0, .ref 64), (1, .int v1), (2, .ref 71), (3, .int v3), (4, .int v4), (6, .int v6)], [.int ((0 : Int32))], xw_W (xy_a (xy_a A 62 p1) 69 p3) L S))) (fun K => rfl) ?_
  refine xe_k ?_
  refine xe_sub [true, true, true, true, true, true] (lv' := [(0, .ref 64), (1, .int v1), (2, .ref 71), (3, .int v3), (4, .int v4), (6, .int v6)]) rfl ?_
  exact xh_rf_isSame_62_69_38 ok A L S p1 p3 n_p1 n_p3 hk6 n v1 v3 v4 v6 ((0 : Int32)) _ h
theorem xh_rf_isSame_62_69_6 {l : Launch} {g : xr_G} (ok : xr_OK xm_P) (A : Nat → Nat → Int32) (L : Nat → Nat → Int64) (S : Nat → Nat → Int32) (p1 : (Nat → Int32)) (p3 : (Nat → Int32)) (n_p1 : Nat) (n_p3 : Nat) (n : Nat) : ∀ (N : Nat) (v1 : Int32) (v3 : Int32) (v4 : Int32) (v5 : Int32) (v6 : Int32) (r : (Int32)), xf_rf_isSame_6 p1 p3 n_p1 n_p3 n N v1 v3 v4 v5 v6 = some r → xV xm_P l g (47, xm_i47, xm_I47, 0, 0, 6, [(0, .ref 64), (1, .int v1), (2, .ref 71), (3, .int v3), (4, .int v4), (5, .int v5), (6, .int v6)], [], xw_W (xy_a (xy_a A 62 p1) 69 p3) L S) (.inl (some (.int r)), xw_W (xy_a (xy_a A 62 p1) 69 p3) L S) := by
  intro N
  induction N with
  | zero => intro v1 v3 v4 v5 v6 r h; cases h
  | succ N hk6 =>
    intro v1 v3 v4 v5 v6 r h
    refine xe_seg ok 3 (G := (fun K => if v6 < v4 then K (47, xm_i47, xm_I47, 0, 0, 13, [(0, .ref 64), (1, .int v1), (2, .ref 71), (3, .int v3), (4, .int v4), (5, .int v5), (6, .int v6)], [], xw_W (xy_a (xy_a A 62 p1) 69 p3) L S) else K (47, xm_i47, xm_I47, 0, 0, 46, [(0, .ref 64), (1, .int v1), (2, .ref 71), (3, .int v3), (4, .int v4), (5, .int v5), (6, .int v6)], [], xw_W (xy_a (xy_a A 62 p1) 69 p3) L S))) (fun K => rfl) ?_
    rcases xb_if h with ⟨hc1052, h⟩ | ⟨hc1052, h⟩
    · refine xe_pos hc1052 (xe_k ?_)
      refine xe_seg ok 2 (G := (fun K => if v5 = (0 : Int32) then K (47, xm_i47, xm_I47, 0, 0, 37, [(0, .ref 64), (1, .int v1), (2, .ref 71), (3, .int v3), (4, .int v4), (5, .int v5), (6, .int v6)], [], xw_W (xy_a (xy_a A 62 p1) 69 p3) L S) else K (47, xm_i47, xm_I47, 0, 0, 18, [(0, .ref 64), (1, .int v1), (2, .ref 71), (3, .int v3), (4, .int v4), (5, .int v5), (6, .int v6)], [], xw_W (xy_a (xy_a A 62 p1) 69 p3) L S))) (fun K => rfl) ?_
      rcases xb_if h with ⟨hc1053, h⟩ | ⟨hc1053, h⟩
      · refine xe_pos hc1053 (xe_k ?_)
        refine xe_sub [true, true, true, true, true, false, true] (lv' := [(0, .ref 64), (1, .int v1), (2, .ref 71), (3, .int v3), (4, .int v4), (6, .int v6)]) rfl ?_
        exact xh_rf_isSame_62_69_37 ok A L S p1 p3 n_p1 n_p3 hk6 n v1 v3 v4 v6 _ h
      · refine xe_neg hc1053 (xe_k ?_)
        refine xe_seg ok 5 (G := (fun K => if xr_in (v1 + v6) 192 = true then K (47, xm_i47, xm_I47, 0, 0, 24, [(0, .ref 64), (1, .int v1), (2, .ref 71), (3, .int v3), (4, .int v4), (5, .int v5), (6, .int v6)], [.int (p1 (v1 + v6).toNatClampNeg)], xw_W (xy_a (xy_a A 62 p1) 69 p3) L S) else none)) (fun K => rfl) ?_
        obtain ⟨hg1054, h⟩ := xn_if h
        refine xe_pos hg1054 (xe_k ?_)
        refine xe_seg ok 5 (G := (fun K => if xr_in (v3 + v6) 960 = true then K (47, xm_i47, xm_I47, 0, 0, 30, [(0, .ref 64), (1, .int v1), (2, .ref 71), (3, .int v3), (4, .int v4), (5, .int v5), (6, .int v6)], [.int (p3 (v3 + v6).toNatClampNeg), .int (p1 (v1 + v6).toNatClampNeg)], xw_W (xy_a (xy_a A 62 p1) 69 p3) L S) else none)) (fun K => rfl) ?_
        obtain ⟨hg1055, h⟩ := xn_if h
        refine xe_pos hg1055 (xe_k ?_)
        refine xe_seg ok 1 (G := (fun K => if (p1 (v1 + v6).toNatClampNeg) = (p3 (v3 + v6).toNatClampNeg) then K (47, xm_i47, xm_I47, 0, 0, 33, [(0, .ref 64), (1, .int v1), (2, .ref 71), (3, .int v3), (4, .int v4), (5, .int v5), (6, .int v6)], [], xw_W (xy_a (xy_a A 62 p1) 69 p3) L S) else K (47, xm_i47, xm_I47, 0, 0, 37, [(0, .ref 64), (1, .int v1), (2, .ref 71), (3, .int v3), (4, .int v4), (5, .int v5), (6, .int v6)], [], xw_W (xy_a (xy_a A 62 p1) 69 p3) L S))) (fun K => rfl) ?_
        rcases xb_if h with ⟨hc1056, h⟩ | ⟨hc1056, h⟩
        · refine xe_pos hc1056 (xe_k ?_)
          refine xe_seg ok 2 (G := (fun K => K (47, xm_i47, xm_I47, 0, 0, 38, [(0, .ref 64), (1, .int v1), (2, .ref 71), (3, .int v3), (4, .int v4), (5, .int v5), (6, .int v6)], [.int ((1 : Int32))], xw_W (xy_a (xy_a A 62 p1) 69 p3) L S))) (fun K => rfl) ?_
          refine xe_k ?_
          refine xe_sub [true, true, true, true, true, false, true] (lv' := [(0, .ref 64), (1, .int v1), (2, .ref 71), (3, .int v3), (4, .int v4), (6, .int v6)]) rfl ?_
          exact xh_rf_isSame_62_69_38 ok A L S p1 p3 n_p1 n_p3 hk6 n v1 v3 v4 v6 ((1 : Int32)) _ h
        · refine xe_neg hc1056 (xe_k ?_)
          refine xe_sub [true, true, true, true, true, false, true] (lv' := [(0, .ref 64), (1, .int v1), (2, .ref 71), (3, .int v3), (4, .int v4), (6, .int v6)]) rfl ?_
          exact xh_rf_isSame_62_69_37 ok A L S p1 p3 n_p1 n_p3 hk6 n v1 v3 v4 v6 _ h
    · refine xe_neg hc1052 (xe_k ?_)
      refine xe_seg ok 2 (G := (fun _ => if fits .boolean (.int v5) = true then some (.inl (some (.int v5)), xw_W (xy_a (xy_a A 62 p1) 69 p3) L S) else none)) (fun K => rfl) ?_
      obtain ⟨hg1057, h⟩ := xn_if h
      obtain rfl := Option.some.inj h
      exact xe_pos (A := fun _ => some (.inl (some (.int v5)), xw_W (xy_a (xy_a A 62 p1) 69 p3) L S)) (B := fun _ => none) hg1057 xe_ret
theorem xh_rf_isSame_62_69 {l : Launch} {g : xr_G} (ok : xr_OK xm_P) (A : Nat → Nat → Int32) (L : Nat → Nat → Int64) (S : Nat → Nat → Int32) (p1 : (Nat → Int32)) (p3 : (Nat → Int32)) (n_p1 : Nat) (n_p3 : Nat) (n : Nat) : ∀ (a2 : Int32) (a4 : Int32) (a5 : Int32) (r : (Int32)), xf_rf_isSame p1 p3 n_p1 n_p3 n a2 a4 a5 = some r → xV xm_P l g (47, xm_i47, xm_I47, 0, 0, 0, [(0, .ref 64), (1, .int a2), (2, .ref 71), (3, .int a4), (4, .int a5)], [], xw_W (xy_a (xy_a A 62 p1) 69 p3) L S) (.inl (some (.int r)), xw_W (xy_a (xy_a A 62 p1) 69 p3) L S) := by
  intro a2 a4 a5 r h
  unfold xf_rf_isSame at h
  refine xe_seg ok 4 (G := (fun K => K (47, xm_i47, xm_I47, 0, 0, 6, [(0, .ref 64), (1, .int a2), (2, .ref 71), (3, .int a4), (4, .int a5), (5, .int ((1 : Int32))), (6, .int ((0 : Int32)))], [], xw_W (xy_a (xy_a A 62 p1) 69 p3) L S))) (fun K => rfl) ?_
  refine xe_k ?_
  refine xe_sub [true, true, true, true, true, true, true] (lv' := [(0, .ref 64), (1, .int a2), (2, .ref 71), (3, .int a4), (4, .int a5), (5, .int ((1 : Int32))), (6, .int ((0 : Int32)))]) rfl ?_
  exact xh_rf_isSame_62_69_6 ok A L S p1 p3 n_p1 n_p3 n n a2 a4 a5 ((1 : Int32)) ((0 : Int32)) _ h
theorem xh_rf_kindOf_57_57 {l : Launch} {g : xr_G} (ok : xr_OK xm_P) (A : Nat → Nat → Int32) (L : Nat → Nat → Int64) (S : Nat → Nat → Int32) (t_kindLetters : (Nat → Int32)) (t_kindNames : (Nat → Int32)) (t_kinds : (Nat → Int32)) (t_letters : (Nat → Int32)) (t_names : (Nat → Int32)) {k2 : Int32 → Int32 → Option (Int32)} (hk2 : ∀ (v1 : Int32) (v2 : Int32) (r : (Int32)), k2 v1 v2 = some r → xV xm_P l g (64, xm_i64, xm_I64, 0, 0, 2, [(0, .ref 59), (1, .int v1), (2, .int v2)], [], xw_W (xy_a (xy_a (xy_a (xy_a (xy_a A 61 t_kindLetters) 62 t_kindNames) 60 t_kinds) 68 t_letters) 69 t_names) L S) (.inl (some (.int r)), xw_W (xy_a (xy_a (xy_a (xy_a (xy_a A 61 t_kindLetters) 62 t_kindNames) 60 t_kinds) 68 t_letters) 69 t_names) L S)) (n : Nat) : ∀ (v1 : Int32) (v2 : Int32) (r : (Int32)), xf_rf_kindOf_57 t_kindLetters t_kindNames t_kinds t_letters t_names k2 n v1 v2 = some r → xV xm_P l g (64, xm_i64, xm_I64, 0, 0, 57, [(0, .ref 59), (1, .int v1), (2, .int v2)], [], xw_W (xy_a (xy_a (xy_a (xy_a (xy_a A 61 t_kindLetters) 62 t_kindNames) 60 t_kinds) 68 t_letters) 69 t_names) L S) (.inl (some (.int r)), xw_W (xy_a (xy_a (xy_a (xy_a (xy_a A 61 t_kindLetters) 62 t_kindNames) 60 t_kinds) 68 t_letters) 69 t_names) L S) := by
  intro v1 v2 r h
  unfold xf_rf_kindOf_57 at h
  refine xe_seg ok 2 (G := (fun K => K (64, xm_i64, xm_I64, 0, 0, 2, [(0, .ref 59), (1, .int v1), (2, .int (v2 + (1 : Int32)))], [], xw_W (xy_a (xy_a (xy_a (xy_a (xy_a A 61 t_kindLetters) 62 t_kindNames) 60 t_kinds) 68 t_letters) 69 t_names) L S))) (fun K => rfl) ?_
  refine xe_k ?_
  refine xe_sub [true, true, true] (lv' := [(0, .ref 59), (1, .int v1), (2, .int (v2 + (1 : Int32)))]) rfl ?_
  exact hk2 v1 (v2 + (1 : Int32)) _ h
theorem xh_rf_kindOf_57_2 {l : Launch} {g : xr_G} (ok : xr_OK xm_P) (A : Nat → Nat → Int32) (L : Nat → Nat → Int64) (S : Nat → Nat → Int32) (t_kindLetters : (Nat → Int32)) (t_kindNames : (Nat → Int32)) (t_kinds : (Nat → Int32)) (t_letters : (Nat → Int32)) (t_names : (Nat → Int32)) (n : Nat) : ∀ (N : Nat) (v1 : Int32) (v2 : Int32) (r : (Int32)), xf_rf_kindOf_2 t_kindLetters t_kindNames t_kinds t_letters t_names n N v1 v2 = some r → xV xm_P l g (64, xm_i64, xm_I64, 0, 0, 2, [(0, .ref 59), (1, .int v1), (2, .int v2)], [], xw_W (xy_a (xy_a (xy_a (xy_a (xy_a A 61 t_kindLetters) 62 t_kindNames) 60 t_kinds) 68 t_letters) 69 t_names) L S) (.inl (some (.int r)), xw_W (xy_a (xy_a (xy_a (xy_a (xy_a A 61 t_kindLetters) 62 t_kindNames) 60 t_kinds) 68 t_letters) 69 t_names) L S) := by
  intro N
  induction N with
  | zero => intro v1 v2 r h; cases h
  | succ N hk2 =>
    intro v1 v2 r h
    refine xe_seg ok 5 (G := (fun K => if xr_in ((0 : Int32)) 2 = true then K (64, xm_i64, xm_I64, 0, 0, 9, [(0, .ref 59), (1, .int v1), (2, .int v2)], [.int (t_kinds ((0 : Int32)).toNatClampNeg), .int v2], xw_W (xy_a (xy_a (xy_a (xy_a (xy_a A 61 t_kindLetters) 62 t_kindNames) 60 t_kinds) 68 t_letters) 69 t_names) L S) else none)) (fun K => rfl) ?_
    obtain ⟨hg1046, h⟩ := xn_if h
    refine xe_pos hg1046 (xe_k ?_)
    refine xe_seg ok 1 (G := (fun K => if v2 < (t_kinds ((0 : Int32)).toNatClampNeg) then K (64, xm_i64, xm_I64, 0, 0, 12, [(0, .ref 59), (1, .int v1), (2, .int v2)], [], xw_W (xy_a (xy_a (xy_a (xy_a (xy_a A 61 t_kindLetters) 62 t_kindNames) 60 t_kinds) 68 t_letters) 69 t_names) L S) else K (64, xm_i64, xm_I64, 0, 0, 63, [(0, .ref 59), (1, .int v1), (2, .int v2)], [], xw_W (xy_a (xy_a (xy_a (xy_a (xy_a A 61 t_kindLetters) 62 t_kindNames) 60 t_kinds) 68 t_letters) 69 t_names) L S))) (fun K => rfl) ?_
    rcases xb_if h with ⟨hc1047, h⟩ | ⟨hc1047, h⟩
    · refine xe_pos hc1047 (xe_k ?_)
      refine xe_seg ok 4 (G := (fun K => if xr_in v2 24 = true then K (64, xm_i64, xm_I64, 0, 0, 18, [(0, .ref 59), (1, .int v1), (2, .int v2)], [.int (t_kindLetters v2.toNatClampNeg)], xw_W (xy_a (xy_a (xy_a (xy_a (xy_a A 61 t_kindLetters) 62 t_kindNames) 60 t_kinds) 68 t_letters) 69 t_names) L S) else none)) (fun K => rfl) ?_
      obtain ⟨hg1048, h⟩ := xn_if h
      refine xe_pos hg1048 (xe_k ?_)
      refine xe_seg ok 4 (G := (fun K => if xr_in v1 120 = true then K (64, xm_i64, xm_I64, 0, 0, 24, [(0, .ref 59), (1, .int v1), (2, .int v2)], [.int (t_letters v1.toNatClampNeg), .int (t_kindLetters v2.toNatClampNeg)], xw_W (xy_a (xy_a (xy_a (xy_a (xy_a A 61 t_kindLetters) 62 t_kindNames) 60 t_kinds) 68 t_letters) 69 t_names) L S) else none)) (fun K => rfl) ?_
      obtain ⟨hg1049, h⟩ := xn_if h
      refine xe_pos hg1049 (xe_k ?_)
      refine xe_seg ok 1 (G := (fun K => if (t_kindLetters v2.toNatClampNeg) = (t_letters v1.toNatClampNeg) then K (64, xm_i64, xm_I64, 0, 0, 27, [(0, .ref 59), (1, .int v1), (2, .int v2)], [], xw_W (xy_a (xy_a (xy_a (xy_a (xy_a A 61 t_kindLetters) 62 t_kindNames) 60 t_kinds) 68 t_letters) 69 t_names) L S) else K (64, xm_i64, xm_I64, 0, 0, 57, [(0, .ref 59), (1, .int v1), (2, .int v2)], [], xw_W (xy_a (xy_a (xy_a (xy_a (xy_a A 61 t_kindLetters) 62 t_kindNames) 60 t_kinds) 68 t_letters) 69 t_names) L S))) (fun K => rfl) ?_
      rcases xb_if h with ⟨hc1050, h⟩ | ⟨hc1050, h⟩
      · refine xe_pos hc1050 (xe_k ?_)
        refine xe_seg ok 14 (G := (fun K => if xr_in v1 120 = true then K (64, xm_i64, xm_I64, 0, 0, 49, [(0, .ref 59), (1, .int v1), (2, .int v2)], [.int (t_letters v1.toNatClampNeg), .int (((8 : Int32)) * v1), .ref 71, .int (((8 : Int32)) * v2), .ref 64], xw_W (xy_a (xy_a (xy_a (xy_a (xy_a A 61 t_kindLetters) 62 t_kindNames) 60 t_kinds) 68 t_letters) 69 t_names) L S) else none)) (fun K => rfl) ?_
        obtain ⟨hg1051, h⟩ := xn_if h
        refine xe_pos hg1051 (xe_k ?_)
        refine xe_seg ok 1 (G := (fun K => xr_back K 64 xm_i64 xm_I64 0 0 49 [(0, .ref 59), (1, .int v1), (2, .int v2)] [] 78 true (K (47, xm_i47, xm_I47, 0, 0, 0, [(0, .ref 64), (1, .int (((8 : Int32)) * v2)), (2, .ref 71), (3, .int (((8 : Int32)) * v1)), (4, .int (t_letters v1.toNatClampNeg))], [], xw_W (xy_a (xy_a (xy_a (xy_a (xy_a A 61 t_kindLetters) 62 t_kindNames) 60 t_kinds) 68 t_letters) 69 t_names) L S)))) (fun K => rfl) ?_
        obtain ⟨q1058, hq1058, h⟩ := Option.bind_eq_some_iff.mp h
        have heq1058 := xh_rf_isSame_62_69 (l := l) (g := g) ok (xy_a (xy_a (xy_a (xy_a (xy_a A 61 t_kindLetters) 62 t_kindNames) 60 t_kinds) 68 t_letters) 69 t_names) L S t_kindNames t_names 192 960 n (((8 : Int32)) * v2) (((8 : Int32)) * v1) (t_letters v1.toNatClampNeg) _ hq1058
        refine xe_call1 (ws' := xw_W (xy_a (xy_a (xy_a (xy_a (xy_a A 61 t_kindLetters) 62 t_kindNames) 60 t_kinds) 68 t_letters) 69 t_names) L S) (by decide) heq1058 (Or.inl rfl) ?_
        refine xe_seg ok 1 (G := (fun K => if q1058 = (0 : Int32) then K (64, xm_i64, xm_I64, 0, 0, 57, [(0, .ref 59), (1, .int v1), (2, .int v2)], [], xw_W (xy_a (xy_a (xy_a (xy_a (xy_a A 61 t_kindLetters) 62 t_kindNames) 60 t_kinds) 68 t_letters) 69 t_names) L S) else K (64, xm_i64, xm_I64, 0, 0, 55, [(0, .ref 59), (1, .int v1), (2, .int v2)], [], xw_W (xy_a (xy_a (xy_a (xy_a (xy_a A 61 t_kindLetters) 62 t_kindNames) 60 t_kinds) 68 t_letters) 69 t_names) L S))) (fun K => rfl) ?_
        rcases xb_if h with ⟨hc1059, h⟩ | ⟨hc1059, h⟩
        · refine xe_pos hc1059 (xe_k ?_)
          refine xe_sub [true, true, true] (lv' := [(0, .ref 59), (1, .int v1), (2, .int v2)]) rfl ?_
          exact xh_rf_kindOf_57_57 ok A L S t_kindLetters t_kindNames t_kinds t_letters t_names hk2 n v1 v2 _ h
        · refine xe_neg hc1059 (xe_k ?_)
          obtain rfl := Option.some.inj h
          refine xe_seg ok 2 (G := (fun _ => some (.inl (some (.int v2)), xw_W (xy_a (xy_a (xy_a (xy_a (xy_a A 61 t_kindLetters) 62 t_kindNames) 60 t_kinds) 68 t_letters) 69 t_names) L S))) (fun K => rfl) ?_
          exact xe_ret
      · refine xe_neg hc1050 (xe_k ?_)
        refine xe_sub [true, true, true] (lv' := [(0, .ref 59), (1, .int v1), (2, .int v2)]) rfl ?_
        exact xh_rf_kindOf_57_57 ok A L S t_kindLetters t_kindNames t_kinds t_letters t_names hk2 n v1 v2 _ h
    · refine xe_neg hc1047 (xe_k ?_)
      obtain rfl := Option.some.inj h
      refine xe_seg ok 2 (G := (fun _ => some (.inl (some (.int ((-1 : Int32)))), xw_W (xy_a (xy_a (xy_a (xy_a (xy_a A 61 t_kindLetters) 62 t_kindNames) 60 t_kinds) 68 t_letters) 69 t_names) L S))) (fun K => rfl) ?_
      exact xe_ret
theorem xh_rf_kindOf_57 {l : Launch} {g : xr_G} (ok : xr_OK xm_P) (A : Nat → Nat → Int32) (L : Nat → Nat → Int64) (S : Nat → Nat → Int32) (t_kindLetters : (Nat → Int32)) (t_kindNames : (Nat → Int32)) (t_kinds : (Nat → Int32)) (t_letters : (Nat → Int32)) (t_names : (Nat → Int32)) (n : Nat) : ∀ (a1 : Int32) (r : (Int32)), xf_rf_kindOf t_kindLetters t_kindNames t_kinds t_letters t_names n a1 = some r → xV xm_P l g (64, xm_i64, xm_I64, 0, 0, 0, [(0, .ref 59), (1, .int a1)], [], xw_W (xy_a (xy_a (xy_a (xy_a (xy_a A 61 t_kindLetters) 62 t_kindNames) 60 t_kinds) 68 t_letters) 69 t_names) L S) (.inl (some (.int r)), xw_W (xy_a (xy_a (xy_a (xy_a (xy_a A 61 t_kindLetters) 62 t_kindNames) 60 t_kinds) 68 t_letters) 69 t_names) L S) := by
  intro a1 r h
  unfold xf_rf_kindOf at h
  refine xe_seg ok 2 (G := (fun K => K (64, xm_i64, xm_I64, 0, 0, 2, [(0, .ref 59), (1, .int a1), (2, .int ((0 : Int32)))], [], xw_W (xy_a (xy_a (xy_a (xy_a (xy_a A 61 t_kindLetters) 62 t_kindNames) 60 t_kinds) 68 t_letters) 69 t_names) L S))) (fun K => rfl) ?_
  refine xe_k ?_
  refine xe_sub [true, true, true] (lv' := [(0, .ref 59), (1, .int a1), (2, .int ((0 : Int32)))]) rfl ?_
  exact xh_rf_kindOf_57_2 ok A L S t_kindLetters t_kindNames t_kinds t_letters t_names n n a1 ((0 : Int32)) _ h
theorem xh_rf_told_57_90 {l : Launch} {g : xr_G} (ok : xr_OK xm_P) (A : Nat → Nat → Int32) (L : Nat → Nat → Int64) (S : Nat → Nat → Int32) (t_items : (Nat → Int32)) (t_kindLetters : (Nat → Int32)) (t_kindNames : (Nat → Int32)) (t_kinds : (Nat → Int32)) (t_letters : (Nat → Int32)) (t_lines : (Nat → Int32)) (t_names : (Nat → Int32)) (t_numbers : (Nat → Int32)) (t_parts : (Nat → Int32)) (t_sorts : (Nat → Int32)) (t_values : (Nat → Int32)) (n : Nat) : ∀ (t_depths : (Nat → Int32)) (t_thrown : Int32) (t_ways : (Nat → Int64)) (s0 : Int32) (r : (Int32 × (Nat → Int32) × Int32 × (Nat → Int64))), xf_rf_told_90 t_items t_kindLetters t_kindNames t_kinds t_letters t_lines t_names t_numbers t_parts t_sorts t_values n t_depths t_thrown t_ways s0 = some r → xV xm_P l g (70, xm_i70, xm_I70, 0, 0, 90, [], [.int s0], xw_W (xy_a (xy_a (xy_a (xy_a (xy_a (xy_a (xy_a (xy_a (xy_a (xy_a (xy_a (xy_a A 74 t_depths) 73 t_items) 61 t_kindLetters) 62 t_kindNames) 60 t_kinds) 68 t_letters) 66 t_lines) 69 t_names) 67 t_numbers) 70 t_parts) 71 t_sorts) 72 t_values) (xy_l L 76 t_ways) (xy_s S 57 0 t_thrown)) (.inl (some (.int r.1)), xw_W (xy_a (xy_a (xy_a (xy_a (xy_a (xy_a (xy_a (xy_a (xy_a (xy_a (xy_a (xy_a A 74 r.2.1) 73 t_items) 61 t_kindLetters) 62 t_kindNames) 60 t_kinds) 68 t_letters) 66 t_lines) 69 t_names) 67 t_numbers) 70 t_parts) 71 t_sorts) 72 t_values) (xy_l L 76 r.2.2.2) (xy_s S 57 0 r.2.2.1)) := by
  intro t_depths t_thrown t_ways s0 r h
  unfold xf_rf_told_90 at h
  obtain rfl := Option.some.inj h
  refine xe_seg ok 1 (G := (fun _ => some (.inl (some (.int s0)), xw_W (xy_a (xy_a (xy_a (xy_a (xy_a (xy_a (xy_a (xy_a (xy_a (xy_a (xy_a (xy_a A 74 t_depths) 73 t_items) 61 t_kindLetters) 62 t_kindNames) 60 t_kinds) 68 t_letters) 66 t_lines) 69 t_names) 67 t_numbers) 70 t_parts) 71 t_sorts) 72 t_values) (xy_l L 76 t_ways) (xy_s S 57 0 t_thrown)))) (fun K => rfl) ?_
  exact xe_ret
theorem xh_rf_referencesOf_57_7 {l : Launch} {g : xr_G} (ok : xr_OK xm_P) (A : Nat → Nat → Int32) (L : Nat → Nat → Int64) (S : Nat → Nat → Int32) (t_parts : (Nat → Int32)) (t_sorts : (Nat → Int32)) (t_values : (Nat → Int32)) (n : Nat) : ∀ (N : Nat) (v1 : Int32) (v2 : Int32) (v3 : Int32) (r : (Int32)), xf_rf_referencesOf_7 t_parts t_sorts t_values n N v1 v2 v3 = some r → xV xm_P l g (67, xm_i67, xm_I67, 0, 0, 7, [(0, .ref 59), (1, .int v1), (2, .int v2), (3, .int v3)], [], xw_W (xy_a (xy_a (xy_a A 70 t_parts) 71 t_sorts) 72 t_values) L S) (.inl (some (.int r)), xw_W (xy_a (xy_a (xy_a A 70 t_parts) 71 t_sorts) 72 t_values) L S) := by
  intro N
  induction N with
  | zero => intro v1 v2 v3 r h; cases h
  | succ N hk7 =>
    intro v1 v2 v3 r h
    refine xe_seg ok 8 (G := (fun K => if xr_in v1 120 = true then K (67, xm_i67, xm_I67, 0, 0, 18, [(0, .ref 59), (1, .int v1), (2, .int v2), (3, .int v3)], [.int (t_parts v1.toNatClampNeg), .int (((8 : Int32)) * v1), .int v3], xw_W (xy_a (xy_a (xy_a A 70 t_parts) 71 t_sorts) 72 t_values) L S) else none)) (fun K => rfl) ?_
    obtain ⟨hg1064, h⟩ := xn_if h
    refine xe_pos hg1064 (xe_k ?_)
    refine xe_seg ok 2 (G := (fun K => if v3 < ((((8 : Int32)) * v1) + (t_parts v1.toNatClampNeg)) then K (67, xm_i67, xm_I67, 0, 0, 22, [(0, .ref 59), (1, .int v1), (2, .int v2), (3, .int v3)], [], xw_W (xy_a (xy_a (xy_a A 70 t_parts) 71 t_sorts) 72 t_values) L S) else K (67, xm_i67, xm_I67, 0, 0, 36, [(0, .ref 59), (1, .int v1), (2, .int v2), (3, .int v3)], [], xw_W (xy_a (xy_a (xy_a A 70 t_parts) 71 t_sorts) 72 t_values) L S))) (fun K => rfl) ?_
    rcases xb_if h with ⟨hc1065, h⟩ | ⟨hc1065, h⟩
    · refine xe_pos hc1065 (xe_k ?_)
      refine xe_seg ok 4 (G := (fun K => xr_back K 67 xm_i67 xm_I67 0 0 25 [(0, .ref 59), (1, .int v1), (2, .int v2), (3, .int v3)] [.int v2] 78 true (K (65, xm_i65, xm_I65, 0, 0, 0, [(0, .ref 59), (1, .int v3)], [], xw_W (xy_a (xy_a (xy_a A 70 t_parts) 71 t_sorts) 72 t_values) L S)))) (fun K => rfl) ?_
      obtain ⟨q1066, hq1066, h⟩ := Option.bind_eq_some_iff.mp h
      have heq1066 := xh_rf_references_57 (l := l) (g := g) ok (xy_a (xy_a (xy_a A 70 t_parts) 71 t_sorts) 72 t_values) L S t_sorts t_values v3 _ hq1066
      refine xe_call1 (ws' := xw_W (xy_a (xy_a (xy_a A 70 t_parts) 71 t_sorts) 72 t_values) L S) (by decide) heq1066 (Or.inl rfl) ?_
      refine xe_seg ok 4 (G := (fun K => K (67, xm_i67, xm_I67, 0, 0, 7, [(0, .ref 59), (1, .int v1), (2, .int (v2 + q1066)), (3, .int (v3 + (1 : Int32)))], [], xw_W (xy_a (xy_a (xy_a A 70 t_parts) 71 t_sorts) 72 t_values) L S))) (fun K => rfl) ?_
      refine xe_k ?_
      refine xe_sub [true, true, true, true] (lv' := [(0, .ref 59), (1, .int v1), (2, .int (v2 + q1066)), (3, .int (v3 + (1 : Int32)))]) rfl ?_
      exact hk7 v1 (v2 + q1066) (v3 + (1 : Int32)) _ h
    · refine xe_neg hc1065 (xe_k ?_)
      obtain rfl := Option.some.inj h
      refine xe_seg ok 2 (G := (fun _ => some (.inl (some (.int v2)), xw_W (xy_a (xy_a (xy_a A 70 t_parts) 71 t_sorts) 72 t_values) L S))) (fun K => rfl) ?_
      exact xe_ret
theorem xh_rf_referencesOf_57 {l : Launch} {g : xr_G} (ok : xr_OK xm_P) (A : Nat → Nat → Int32) (L : Nat → Nat → Int64) (S : Nat → Nat → Int32) (t_parts : (Nat → Int32)) (t_sorts : (Nat → Int32)) (t_values : (Nat → Int32)) (n : Nat) : ∀ (a1 : Int32) (r : (Int32)), xf_rf_referencesOf t_parts t_sorts t_values n a1 = some r → xV xm_P l g (67, xm_i67, xm_I67, 0, 0, 0, [(0, .ref 59), (1, .int a1)], [], xw_W (xy_a (xy_a (xy_a A 70 t_parts) 71 t_sorts) 72 t_values) L S) (.inl (some (.int r)), xw_W (xy_a (xy_a (xy_a A 70 t_parts) 71 t_sorts) 72 t_values) L S) := by
  intro a1 r h
  unfold xf_rf_referencesOf at h
  refine xe_seg ok 6 (G := (fun K => K (67, xm_i67, xm_I67, 0, 0, 7, [(0, .ref 59), (1, .int a1), (2, .int ((0 : Int32))), (3, .int (((8 : Int32)) * a1))], [], xw_W (xy_a (xy_a (xy_a A 70 t_parts) 71 t_sorts) 72 t_values) L S))) (fun K => rfl) ?_
  refine xe_k ?_
  refine xe_sub [true, true, true, true] (lv' := [(0, .ref 59), (1, .int a1), (2, .int ((0 : Int32))), (3, .int (((8 : Int32)) * a1))]) rfl ?_
  exact xh_rf_referencesOf_57_7 ok A L S t_parts t_sorts t_values n n a1 ((0 : Int32)) (((8 : Int32)) * a1) _ h
theorem xh_rf_told_57_32 {l : Launch} {g : xr_G} (ok : xr_OK xm_P) (A : Nat → Nat → Int32) (L : Nat → Nat → Int64) (S : Nat → Nat → Int32) (t_items : (Nat → Int32)) (t_kindLetters : (Nat → Int32)) (t_kindNames : (Nat → Int32)) (t_kinds : (Nat → Int32)) (t_letters : (Nat → Int32)) (t_lines : (Nat → Int32)) (t_names : (Nat → Int32)) (t_numbers : (Nat → Int32)) (t_parts : (Nat → Int32)) (t_sorts : (Nat → Int32)) (t_values : (Nat → Int32)) (n : Nat) : ∀ (t_depths : (Nat → Int32)) (t_thrown : Int32) (t_ways : (Nat → Int64)) (v2 : Int32) (v3 : Int32) (s1 : Int32) (r : (Int32 × (Nat → Int32) × Int32 × (Nat → Int64))), xf_rf_told_32 t_items t_kindLetters t_kindNames t_kinds t_letters t_lines t_names t_numbers t_parts t_sorts t_values n t_depths t_thrown t_ways v2 v3 s1 = some r → xV xm_P l g (70, xm_i70, xm_I70, 0, 0, 32, [(0, .ref 59), (2, .int v2), (3, .int v3)], [.int s1, .ref 59], xw_W (xy_a (xy_a (xy_a (xy_a (xy_a (xy_a (xy_a (xy_a (xy_a (xy_a (xy_a (xy_a A 74 t_depths) 73 t_items) 61 t_kindLetters) 62 t_kindNames) 60 t_kinds) 68 t_letters) 66 t_lines) 69 t_names) 67 t_numbers) 70 t_parts) 71 t_sorts) 72 t_values) (xy_l L 76 t_ways) (xy_s S 57 0 t_thrown)) (.inl (some (.int r.1)), xw_W (xy_a (xy_a (xy_a (xy_a (xy_a (xy_a (xy_a (xy_a (xy_a (xy_a (xy_a (xy_a A 74 r.2.1) 73 t_items) 61 t_kindLetters) 62 t_kindNames) 60 t_kinds) 68 t_letters) 66 t_lines) 69 t_names) 67 t_numbers) 70 t_parts) 71 t_sorts) 72 t_values) (xy_l L 76 r.2.2.2) (xy_s S 57 0 r.2.2.1)) := by
  intro t_depths t_thrown t_ways v2 v3 s1 r h
  unfold xf_rf_told_32 at h
  refine xe_seg ok 2 (G := (fun K => xr_back K 70 xm_i70 xm_I70 0 0 33 [(0, .ref 59), (2, .int v2), (3, .int v3)] [] 78 true (K (32, xm_i32, xm_I32, 0, 0, 0, [(0, .ref 59), (1, .int s1), (2, .int ((1 : Int32)))], [], xw_W (xy_a (xy_a (xy_a (xy_a (xy_a (xy_a (xy_a (xy_a (xy_a (xy_a (xy_a (xy_a A 74 t_depths) 73 t_items) 61 t_kindLetters) 62 t_kindNames) 60 t_kinds) 68 t_letters) 66 t_lines) 69 t_names) 67 t_numbers) 70 t_parts) 71 t_sorts) 72 t_values) (xy_l L 76 t_ways) (xy_s S 57 0 t_thrown))))) (fun K => rfl) ?_
  obtain ⟨q1002, hq1002, h⟩ := Option.bind_eq_some_iff.mp h
  have heq1002 := xh_rf_fails_57 (l := l) (g := g) ok (xy_a (xy_a (xy_a (xy_a (xy_a (xy_a (xy_a (xy_a (xy_a (xy_a (xy_a (xy_a A 74 t_depths) 73 t_items) 61 t_kindLetters) 62 t_kindNames) 60 t_kinds) 68 t_letters) 66 t_lines) 69 t_names) 67 t_numbers) 70 t_parts) 71 t_sorts) 72 t_values) (xy_l L 76 t_ways) (xy_s S 57 0 t_thrown) t_thrown s1 ((1 : Int32)) _ hq1002
  refine xe_call1 (ws' := xw_W (xy_a (xy_a (xy_a (xy_a (xy_a (xy_a (xy_a (xy_a (xy_a (xy_a (xy_a (xy_a A 74 t_depths) 73 t_items) 61 t_kindLetters) 62 t_kindNames) 60 t_kinds) 68 t_letters) 66 t_lines) 69 t_names) 67 t_numbers) 70 t_parts) 71 t_sorts) 72 t_values) (xy_l L 76 t_ways) (xy_s S 57 0 q1002.2)) (by decide) heq1002 (Or.inl rfl) ?_
  refine xe_seg ok 1 (G := (fun K => if q1002.1 = (0 : Int32) then K (70, xm_i70, xm_I70, 0, 0, 41, [(0, .ref 59), (2, .int v2), (3, .int v3)], [], xw_W (xy_a (xy_a (xy_a (xy_a (xy_a (xy_a (xy_a (xy_a (xy_a (xy_a (xy_a (xy_a A 74 t_depths) 73 t_items) 61 t_kindLetters) 62 t_kindNames) 60 t_kinds) 68 t_letters) 66 t_lines) 69 t_names) 67 t_numbers) 70 t_parts) 71 t_sorts) 72 t_values) (xy_l L 76 t_ways) (xy_s S 57 0 q1002.2)) else K (70, xm_i70, xm_I70, 0, 0, 39, [(0, .ref 59), (2, .int v2), (3, .int v3)], [], xw_W (xy_a (xy_a (xy_a (xy_a (xy_a (xy_a (xy_a (xy_a (xy_a (xy_a (xy_a (xy_a A 74 t_depths) 73 t_items) 61 t_kindLetters) 62 t_kindNames) 60 t_kinds) 68 t_letters) 66 t_lines) 69 t_names) 67 t_numbers) 70 t_parts) 71 t_sorts) 72 t_values) (xy_l L 76 t_ways) (xy_s S 57 0 q1002.2)))) (fun K => rfl) ?_
  rcases xb_if h with ⟨hc1003, h⟩ | ⟨hc1003, h⟩
  · refine xe_pos hc1003 (xe_k ?_)
    refine xe_seg ok 2 (G := (fun K => xr_back K 70 xm_i70 xm_I70 0 0 42 [(0, .ref 59), (2, .int v2), (3, .int v3)] [] 78 true (K (69, xm_i69, xm_I69, 0, 0, 0, [(0, .ref 59)], [], xw_W (xy_a (xy_a (xy_a (xy_a (xy_a (xy_a (xy_a (xy_a (xy_a (xy_a (xy_a (xy_a A 74 t_depths) 73 t_items) 61 t_kindLetters) 62 t_kindNames) 60 t_kinds) 68 t_letters) 66 t_lines) 69 t_names) 67 t_numbers) 70 t_parts) 71 t_sorts) 72 t_values) (xy_l L 76 t_ways) (xy_s S 57 0 q1002.2))))) (fun K => rfl) ?_
    obtain ⟨q1044, hq1044, h⟩ := Option.bind_eq_some_iff.mp h
    have heq1044 := xh_rf_findDepths_57 (l := l) (g := g) ok (xy_a (xy_a (xy_a (xy_a (xy_a (xy_a (xy_a (xy_a (xy_a (xy_a (xy_a (xy_a A 74 t_depths) 73 t_items) 61 t_kindLetters) 62 t_kindNames) 60 t_kinds) 68 t_letters) 66 t_lines) 69 t_names) 67 t_numbers) 70 t_parts) 71 t_sorts) 72 t_values) (xy_l L 76 t_ways) (xy_s S 57 0 q1002.2) t_items t_lines t_numbers t_parts t_sorts t_values n t_depths t_ways _ hq1044
    refine xe_call0 (ws' := xw_W (xy_a (xy_a (xy_a (xy_a (xy_a (xy_a (xy_a (xy_a (xy_a (xy_a (xy_a (xy_a A 74 q1044.2.1) 73 t_items) 61 t_kindLetters) 62 t_kindNames) 60 t_kinds) 68 t_letters) 66 t_lines) 69 t_names) 67 t_numbers) 70 t_parts) 71 t_sorts) 72 t_values) (xy_l L 76 q1044.2.2) (xy_s S 57 0 q1002.2)) (by decide) heq1044 (Or.inl rfl) ?_
    refine xe_seg ok 2 (G := (fun K => if v2 = (0 : Int32) then K (70, xm_i70, xm_I70, 0, 0, 49, [(0, .ref 59), (2, .int v2), (3, .int v3)], [], xw_W (xy_a (xy_a (xy_a (xy_a (xy_a (xy_a (xy_a (xy_a (xy_a (xy_a (xy_a (xy_a A 74 q1044.2.1) 73 t_items) 61 t_kindLetters) 62 t_kindNames) 60 t_kinds) 68 t_letters) 66 t_lines) 69 t_names) 67 t_numbers) 70 t_parts) 71 t_sorts) 72 t_values) (xy_l L 76 q1044.2.2) (xy_s S 57 0 q1002.2)) else K (70, xm_i70, xm_I70, 0, 0, 57, [(0, .ref 59), (2, .int v2), (3, .int v3)], [], xw_W (xy_a (xy_a (xy_a (xy_a (xy_a (xy_a (xy_a (xy_a (xy_a (xy_a (xy_a (xy_a A 74 q1044.2.1) 73 t_items) 61 t_kindLetters) 62 t_kindNames) 60 t_kinds) 68 t_letters) 66 t_lines) 69 t_names) 67 t_numbers) 70 t_parts) 71 t_sorts) 72 t_values) (xy_l L 76 q1044.2.2) (xy_s S 57 0 q1002.2)))) (fun K => rfl) ?_
    rcases xb_if h with ⟨hc1045, h⟩ | ⟨hc1045, h⟩
    · refine xe_pos hc1045 (xe_k ?_)
      refine xe_seg ok 3 (G := (fun K => xr_back K 70 xm_i70 xm_I70 0 0 51 [(0, .ref 59), (2, .int v2), (3, .int v3)] [] 78 true (K (64, xm_i64, xm_I64, 0, 0, 0, [(0, .ref 59), (1, .int v3)], [], xw_W (xy_a (xy_a (xy_a (xy_a (xy_a (xy_a (xy_a (xy_a (xy_a (xy_a (xy_a (xy_a A 74 q1044.2.1) 73 t_items) 61 t_kindLetters) 62 t_kindNames) 60 t_kinds) 68 t_letters) 66 t_lines) 69 t_names) 67 t_numbers) 70 t_parts) 71 t_sorts) 72 t_values) (xy_l L 76 q1044.2.2) (xy_s S 57 0 q1002.2))))) (fun K => rfl) ?_
      obtain ⟨q1060, hq1060, h⟩ := Option.bind_eq_some_iff.mp h
      have heq1060 := xh_rf_kindOf_57 (l := l) (g := g) ok (xy_a (xy_a (xy_a (xy_a (xy_a (xy_a (xy_a (xy_a (xy_a (xy_a (xy_a (xy_a A 74 q1044.2.1) 73 t_items) 61 t_kindLetters) 62 t_kindNames) 60 t_kinds) 68 t_letters) 66 t_lines) 69 t_names) 67 t_numbers) 70 t_parts) 71 t_sorts) 72 t_values) (xy_l L 76 q1044.2.2) (xy_s S 57 0 q1002.2) t_kindLetters t_kindNames t_kinds t_letters t_names n v3 _ hq1060
      refine xe_call1 (ws' := xw_W (xy_a (xy_a (xy_a (xy_a (xy_a (xy_a (xy_a (xy_a (xy_a (xy_a (xy_a (xy_a A 74 q1044.2.1) 73 t_items) 61 t_kindLetters) 62 t_kindNames) 60 t_kinds) 68 t_letters) 66 t_lines) 69 t_names) 67 t_numbers) 70 t_parts) 71 t_sorts) 72 t_values) (xy_l L 76 q1044.2.2) (xy_s S 57 0 q1002.2)) (by decide) heq1060 (Or.inl rfl) ?_
      refine xe_seg ok 1 (G := (fun K => K (70, xm_i70, xm_I70, 0, 0, 90, [(0, .ref 59), (2, .int v2), (3, .int v3)], [.int q1060], xw_W (xy_a (xy_a (xy_a (xy_a (xy_a (xy_a (xy_a (xy_a (xy_a (xy_a (xy_a (xy_a A 74 q1044.2.1) 73 t_items) 61 t_kindLetters) 62 t_kindNames) 60 t_kinds) 68 t_letters) 66 t_lines) 69 t_names) 67 t_numbers) 70 t_parts) 71 t_sorts) 72 t_values) (xy_l L 76 q1044.2.2) (xy_s S 57 0 q1002.2)))) (fun K => rfl) ?_
      refine xe_k ?_
      refine xe_sub [false, false, false] (lv' := []) rfl ?_
      exact xh_rf_told_57_90 ok A L S t_items t_kindLetters t_kindNames t_kinds t_letters t_lines t_names t_numbers t_parts t_sorts t_values n q1044.2.1 q1002.2 q1044.2.2 q1060 _ h
    · refine xe_neg hc1045 (xe_k ?_)
      refine xe_seg ok 3 (G := (fun K => if v2 = ((1 : Int32)) then K (70, xm_i70, xm_I70, 0, 0, 62, [(0, .ref 59), (2, .int v2), (3, .int v3)], [], xw_W (xy_a (xy_a (xy_a (xy_a (xy_a (xy_a (xy_a (xy_a (xy_a (xy_a (xy_a (xy_a A 74 q1044.2.1) 73 t_items) 61 t_kindLetters) 62 t_kindNames) 60 t_kinds) 68 t_letters) 66 t_lines) 69 t_names) 67 t_numbers) 70 t_parts) 71 t_sorts) 72 t_values) (xy_l L 76 q1044.2.2) (xy_s S 57 0 q1002.2)) else K (70, xm_i70, xm_I70, 0, 0, 71, [(0, .ref 59), (2, .int v2), (3, .int v3)], [], xw_W (xy_a (xy_a (xy_a (xy_a (xy_a (xy_a (xy_a (xy_a (xy_a (xy_a (xy_a (xy_a A 74 q1044.2.1) 73 t_items) 61 t_kindLetters) 62 t_kindNames) 60 t_kinds) 68 t_letters) 66 t_lines) 69 t_names) 67 t_numbers) 70 t_parts) 71 t_sorts) 72 t_values) (xy_l L 76 q1044.2.2) (xy_s S 57 0 q1002.2)))) (fun K => rfl) ?_
      rcases xb_if h with ⟨hc1061, h⟩ | ⟨hc1061, h⟩
      · refine xe_pos hc1061 (xe_k ?_)
        refine xe_seg ok 4 (G := (fun K => if xr_in v3 120 = true then K (70, xm_i70, xm_I70, 0, 0, 68, [(0, .ref 59), (2, .int v2), (3, .int v3)], [.int (t_parts v3.toNatClampNeg)], xw_W (xy_a (xy_a (xy_a (xy_a (xy_a (xy_a (xy_a (xy_a (xy_a (xy_a (xy_a (xy_a A 74 q1044.2.1) 73 t_items) 61 t_kindLetters) 62 t_kindNames) 60 t_kinds) 68 t_letters) 66 t_lines) 69 t_names) 67 t_numbers) 70 t_parts) 71 t_sorts) 72 t_values) (xy_l L 76 q1044.2.2) (xy_s S 57 0 q1002.2)) else none)) (fun K => rfl) ?_
        obtain ⟨hg1062, h⟩ := xn_if h
        refine xe_pos hg1062 (xe_k ?_)
        refine xe_seg ok 1 (G := (fun K => K (70, xm_i70, xm_I70, 0, 0, 90, [(0, .ref 59), (2, .int v2), (3, .int v3)], [.int (t_parts v3.toNatClampNeg)], xw_W (xy_a (xy_a (xy_a (xy_a (xy_a (xy_a (xy_a (xy_a (xy_a (xy_a (xy_a (xy_a A 74 q1044.2.1) 73 t_items) 61 t_kindLetters) 62 t_kindNames) 60 t_kinds) 68 t_letters) 66 t_lines) 69 t_names) 67 t_numbers) 70 t_parts) 71 t_sorts) 72 t_values) (xy_l L 76 q1044.2.2) (xy_s S 57 0 q1002.2)))) (fun K => rfl) ?_
        refine xe_k ?_
        refine xe_sub [false, false, false] (lv' := []) rfl ?_
        exact xh_rf_told_57_90 ok A L S t_items t_kindLetters t_kindNames t_kinds t_letters t_lines t_names t_numbers t_parts t_sorts t_values n q1044.2.1 q1002.2 q1044.2.2 (t_parts v3.toNatClampNeg) _ h
      · refine xe_neg hc1061 (xe_k ?_)
        refine xe_seg ok 3 (G := (fun K => if v2 = ((2 : Int32)) then K (70, xm_i70, xm_I70, 0, 0, 76, [(0, .ref 59), (2, .int v2), (3, .int v3)], [], xw_W (xy_a (xy_a (xy_a (xy_a (xy_a (xy_a (xy_a (xy_a (xy_a (xy_a (xy_a (xy_a A 74 q1044.2.1) 73 t_items) 61 t_kindLetters) 62 t_kindNames) 60 t_kinds) 68 t_letters) 66 t_lines) 69 t_names) 67 t_numbers) 70 t_parts) 71 t_sorts) 72 t_values) (xy_l L 76 q1044.2.2) (xy_s S 57 0 q1002.2)) else K (70, xm_i70, xm_I70, 0, 0, 84, [(0, .ref 59), (2, .int v2), (3, .int v3)], [], xw_W (xy_a (xy_a (xy_a (xy_a (xy_a (xy_a (xy_a (xy_a (xy_a (xy_a (xy_a (xy_a A 74 q1044.2.1) 73 t_items) 61 t_kindLetters) 62 t_kindNames) 60 t_kinds) 68 t_letters) 66 t_lines) 69 t_names) 67 t_numbers) 70 t_parts) 71 t_sorts) 72 t_values) (xy_l L 76 q1044.2.2) (xy_s S 57 0 q1002.2)))) (fun K => rfl) ?_
        rcases xb_if h with ⟨hc1063, h⟩ | ⟨hc1063, h⟩
        · refine xe_pos hc1063 (xe_k ?_)
          refine xe_seg ok 3 (G := (fun K => xr_back K 70 xm_i70 xm_I70 0 0 78 [(0, .ref 59), (2, .int v2), (3, .int v3)] [] 78 true (K (67, xm_i67, xm_I67, 0, 0, 0, [(0, .ref 59), (1, .int v3)], [], xw_W (xy_a (xy_a (xy_a (xy_a (xy_a (xy_a (xy_a (xy_a (xy_a (xy_a (xy_a (xy_a A 74 q1044.2.1) 73 t_items) 61 t_kindLetters) 62 t_kindNames) 60 t_kinds) 68 t_letters) 66 t_lines) 69 t_names) 67 t_numbers) 70 t_parts) 71 t_sorts) 72 t_values) (xy_l L 76 q1044.2.2) (xy_s S 57 0 q1002.2))))) (fun K => rfl) ?_
          obtain ⟨q1067, hq1067, h⟩ := Option.bind_eq_some_iff.mp h
          have heq1067 := xh_rf_referencesOf_57 (l := l) (g := g) ok (xy_a (xy_a (xy_a (xy_a (xy_a (xy_a (xy_a (xy_a (xy_a (xy_a (xy_a (xy_a A 74 q1044.2.1) 73 t_items) 61 t_kindLetters) 62 t_kindNames) 60 t_kinds) 68 t_letters) 66 t_lines) 69 t_names) 67 t_numbers) 70 t_parts) 71 t_sorts) 72 t_values) (xy_l L 76 q1044.2.2) (xy_s S 57 0 q1002.2) t_parts t_sorts t_values n v3 _ hq1067
          refine xe_call1 (ws' := xw_W (xy_a (xy_a (xy_a (xy_a (xy_a (xy_a (xy_a (xy_a (xy_a (xy_a (xy_a (xy_a A 74 q1044.2.1) 73 t_items) 61 t_kindLetters) 62 t_kindNames) 60 t_kinds) 68 t_letters) 66 t_lines) 69 t_names) 67 t_numbers) 70 t_parts) 71 t_sorts) 72 t_values) (xy_l L 76 q1044.2.2) (xy_s S 57 0 q1002.2)) (by decide) heq1067 (Or.inl rfl) ?_
          refine xe_seg ok 1 (G := (fun K => K (70, xm_i70, xm_I70, 0, 0, 90, [(0, .ref 59), (2, .int v2), (3, .int v3)], [.int q1067], xw_W (xy_a (xy_a (xy_a (xy_a (xy_a (xy_a (xy_a (xy_a (xy_a (xy_a (xy_a (xy_a A 74 q1044.2.1) 73 t_items) 61 t_kindLetters) 62 t_kindNames) 60 t_kinds) 68 t_letters) 66 t_lines) 69 t_names) 67 t_numbers) 70 t_parts) 71 t_sorts) 72 t_values) (xy_l L 76 q1044.2.2) (xy_s S 57 0 q1002.2)))) (fun K => rfl) ?_
          refine xe_k ?_
          refine xe_sub [false, false, false] (lv' := []) rfl ?_
          exact xh_rf_told_57_90 ok A L S t_items t_kindLetters t_kindNames t_kinds t_letters t_lines t_names t_numbers t_parts t_sorts t_values n q1044.2.1 q1002.2 q1044.2.2 q1067 _ h
        · refine xe_neg hc1063 (xe_k ?_)
          refine xe_seg ok 4 (G := (fun K => if xr_in v3 40 = true then K (70, xm_i70, xm_I70, 0, 0, 90, [(0, .ref 59), (2, .int v2), (3, .int v3)], [.int (q1044.2.1 v3.toNatClampNeg)], xw_W (xy_a (xy_a (xy_a (xy_a (xy_a (xy_a (xy_a (xy_a (xy_a (xy_a (xy_a (xy_a A 74 q1044.2.1) 73 t_items) 61 t_kindLetters) 62 t_kindNames) 60 t_kinds) 68 t_letters) 66 t_lines) 69 t_names) 67 t_numbers) 70 t_parts) 71 t_sorts) 72 t_values) (xy_l L 76 q1044.2.2) (xy_s S 57 0 q1002.2)) else none)) (fun K => rfl) ?_
          obtain ⟨hg1068, h⟩ := xn_if h
          refine xe_pos hg1068 (xe_k ?_)
          refine xe_sub [false, false, false] (lv' := []) rfl ?_
          exact xh_rf_told_57_90 ok A L S t_items t_kindLetters t_kindNames t_kinds t_letters t_lines t_names t_numbers t_parts t_sorts t_values n q1044.2.1 q1002.2 q1044.2.2 (q1044.2.1 v3.toNatClampNeg) _ h
  · refine xe_neg hc1003 (xe_k ?_)
    obtain rfl := Option.some.inj h
    refine xe_seg ok 2 (G := (fun _ => some (.inl (some (.int ((0 : Int32)))), xw_W (xy_a (xy_a (xy_a (xy_a (xy_a (xy_a (xy_a (xy_a (xy_a (xy_a (xy_a (xy_a A 74 t_depths) 73 t_items) 61 t_kindLetters) 62 t_kindNames) 60 t_kinds) 68 t_letters) 66 t_lines) 69 t_names) 67 t_numbers) 70 t_parts) 71 t_sorts) 72 t_values) (xy_l L 76 t_ways) (xy_s S 57 0 q1002.2)))) (fun K => rfl) ?_
    exact xe_ret
theorem xh_rf_told_57_27 {l : Launch} {g : xr_G} (ok : xr_OK xm_P) (A : Nat → Nat → Int32) (L : Nat → Nat → Int64) (S : Nat → Nat → Int32) (t_items : (Nat → Int32)) (t_kindLetters : (Nat → Int32)) (t_kindNames : (Nat → Int32)) (t_kinds : (Nat → Int32)) (t_letters : (Nat → Int32)) (t_lines : (Nat → Int32)) (t_names : (Nat → Int32)) (t_numbers : (Nat → Int32)) (t_parts : (Nat → Int32)) (t_sorts : (Nat → Int32)) (t_values : (Nat → Int32)) (n : Nat) : ∀ (t_depths : (Nat → Int32)) (t_thrown : Int32) (t_ways : (Nat → Int64)) (v2 : Int32) (v3 : Int32) (r : (Int32 × (Nat → Int32) × Int32 × (Nat → Int64))), xf_rf_told_27 t_items t_kindLetters t_kindNames t_kinds t_letters t_lines t_names t_numbers t_parts t_sorts t_values n t_depths t_thrown t_ways v2 v3 = some r → xV xm_P l g (70, xm_i70, xm_I70, 0, 0, 27, [(0, .ref 59), (2, .int v2), (3, .int v3)], [.ref 59], xw_W (xy_a (xy_a (xy_a (xy_a (xy_a (xy_a (xy_a (xy_a (xy_a (xy_a (xy_a (xy_a A 74 t_depths) 73 t_items) 61 t_kindLetters) 62 t_kindNames) 60 t_kinds) 68 t_letters) 66 t_lines) 69 t_names) 67 t_numbers) 70 t_parts) 71 t_sorts) 72 t_values) (xy_l L 76 t_ways) (xy_s S 57 0 t_thrown)) (.inl (some (.int r.1)), xw_W (xy_a (xy_a (xy_a (xy_a (xy_a (xy_a (xy_a (xy_a (xy_a (xy_a (xy_a (xy_a A 74 r.2.1) 73 t_items) 61 t_kindLetters) 62 t_kindNames) 60 t_kinds) 68 t_letters) 66 t_lines) 69 t_names) 67 t_numbers) 70 t_parts) 71 t_sorts) 72 t_values) (xy_l L 76 r.2.2.2) (xy_s S 57 0 r.2.2.1)) := by
  intro t_depths t_thrown t_ways v2 v3 r h
  unfold xf_rf_told_27 at h
  refine xe_seg ok 2 (G := (fun K => K (70, xm_i70, xm_I70, 0, 0, 32, [(0, .ref 59), (2, .int v2), (3, .int v3)], [.int ((1 : Int32)), .ref 59], xw_W (xy_a (xy_a (xy_a (xy_a (xy_a (xy_a (xy_a (xy_a (xy_a (xy_a (xy_a (xy_a A 74 t_depths) 73 t_items) 61 t_kindLetters) 62 t_kindNames) 60 t_kinds) 68 t_letters) 66 t_lines) 69 t_names) 67 t_numbers) 70 t_parts) 71 t_sorts) 72 t_values) (xy_l L 76 t_ways) (xy_s S 57 0 t_thrown)))) (fun K => rfl) ?_
  refine xe_k ?_
  refine xe_sub [true, true, true] (lv' := [(0, .ref 59), (2, .int v2), (3, .int v3)]) rfl ?_
  exact xh_rf_told_57_32 ok A L S t_items t_kindLetters t_kindNames t_kinds t_letters t_lines t_names t_numbers t_parts t_sorts t_values n t_depths t_thrown t_ways v2 v3 ((1 : Int32)) _ h
theorem xh_rf_told_57 {l : Launch} {g : xr_G} (ok : xr_OK xm_P) (A : Nat → Nat → Int32) (L : Nat → Nat → Int64) (S : Nat → Nat → Int32) (t_items : (Nat → Int32)) (t_kindLetters : (Nat → Int32)) (t_kindNames : (Nat → Int32)) (t_kinds : (Nat → Int32)) (t_letters : (Nat → Int32)) (t_lines : (Nat → Int32)) (t_names : (Nat → Int32)) (t_numbers : (Nat → Int32)) (t_parts : (Nat → Int32)) (t_sorts : (Nat → Int32)) (t_values : (Nat → Int32)) (n : Nat) : ∀ (t_depths : (Nat → Int32)) (t_thrown : Int32) (t_ways : (Nat → Int64)) (a1 : Int32) (a2 : Int32) (r : (Int32 × (Nat → Int32) × Int32 × (Nat → Int64))), xf_rf_told t_items t_kindLetters t_kindNames t_kinds t_letters t_lines t_names t_numbers t_parts t_sorts t_values n t_depths t_thrown t_ways a1 a2 = some r → xV xm_P l g (70, xm_i70, xm_I70, 0, 0, 0, [(0, .ref 59), (1, .int a1), (2, .int a2)], [], xw_W (xy_a (xy_a (xy_a (xy_a (xy_a (xy_a (xy_a (xy_a (xy_a (xy_a (xy_a (xy_a A 74 t_depths) 73 t_items) 61 t_kindLetters) 62 t_kindNames) 60 t_kinds) 68 t_letters) 66 t_lines) 69 t_names) 67 t_numbers) 70 t_parts) 71 t_sorts) 72 t_values) (xy_l L 76 t_ways) (xy_s S 57 0 t_thrown)) (.inl (some (.int r.1)), xw_W (xy_a (xy_a (xy_a (xy_a (xy_a (xy_a (xy_a (xy_a (xy_a (xy_a (xy_a (xy_a A 74 r.2.1) 73 t_items) 61 t_kindLetters) 62 t_kindNames) 60 t_kinds) 68 t_letters) 66 t_lines) 69 t_names) 67 t_numbers) 70 t_parts) 71 t_sorts) 72 t_values) (xy_l L 76 r.2.2.2) (xy_s S 57 0 r.2.2.1)) := by
  intro t_depths t_thrown t_ways a1 a2 r h
  unfold xf_rf_told at h
  refine xe_seg ok 7 (G := (fun K => xr_back K 70 xm_i70 xm_I70 0 0 8 [(0, .ref 59), (1, .int a1), (2, .int a2)] [] 78 true (K (50, xm_i50, xm_I50, 0, 0, 0, [(0, .ref 59), (1, .int ((0 : Int32))), (2, .int a1)], [], xw_W (xy_a (xy_a (xy_a (xy_a (xy_a (xy_a (xy_a (xy_a (xy_a (xy_a (xy_a (xy_a A 74 t_depths) 73 t_items) 61 t_kindLetters) 62 t_kindNames) 60 t_kinds) 68 t_letters) 66 t_lines) 69 t_names) 67 t_numbers) 70 t_parts) 71 t_sorts) 72 t_values) (xy_l L 76 t_ways) (xy_s S 57 0 ((0 : Int32))))))) (fun K => rfl) ?_
  obtain ⟨q1000, hq1000, h⟩ := Option.bind_eq_some_iff.mp h
  have heq1000 := xh_rf_find_57 (l := l) (g := g) ok (xy_a (xy_a (xy_a (xy_a (xy_a (xy_a (xy_a (xy_a (xy_a (xy_a (xy_a (xy_a A 74 t_depths) 73 t_items) 61 t_kindLetters) 62 t_kindNames) 60 t_kinds) 68 t_letters) 66 t_lines) 69 t_names) 67 t_numbers) 70 t_parts) 71 t_sorts) 72 t_values) (xy_l L 76 t_ways) (xy_s S 57 0 ((0 : Int32))) t_lines t_numbers n ((0 : Int32)) a1 _ hq1000
  refine xe_call1 (ws' := xw_W (xy_a (xy_a (xy_a (xy_a (xy_a (xy_a (xy_a (xy_a (xy_a (xy_a (xy_a (xy_a A 74 t_depths) 73 t_items) 61 t_kindLetters) 62 t_kindNames) 60 t_kinds) 68 t_letters) 66 t_lines) 69 t_names) 67 t_numbers) 70 t_parts) 71 t_sorts) 72 t_values) (xy_l L 76 t_ways) (xy_s S 57 0 ((0 : Int32)))) (by decide) heq1000 (Or.inl rfl) ?_
  refine xe_seg ok 5 (G := (fun K => if q1000 = ((-1 : Int32)) then K (70, xm_i70, xm_I70, 0, 0, 27, [(0, .ref 59), (1, .int a1), (2, .int a2), (3, .int q1000)], [.ref 59], xw_W (xy_a (xy_a (xy_a (xy_a (xy_a (xy_a (xy_a (xy_a (xy_a (xy_a (xy_a (xy_a A 74 t_depths) 73 t_items) 61 t_kindLetters) 62 t_kindNames) 60 t_kinds) 68 t_letters) 66 t_lines) 69 t_names) 67 t_numbers) 70 t_parts) 71 t_sorts) 72 t_values) (xy_l L 76 t_ways) (xy_s S 57 0 ((0 : Int32)))) else K (70, xm_i70, xm_I70, 0, 0, 18, [(0, .ref 59), (1, .int a1), (2, .int a2), (3, .int q1000)], [.ref 59], xw_W (xy_a (xy_a (xy_a (xy_a (xy_a (xy_a (xy_a (xy_a (xy_a (xy_a (xy_a (xy_a A 74 t_depths) 73 t_items) 61 t_kindLetters) 62 t_kindNames) 60 t_kinds) 68 t_letters) 66 t_lines) 69 t_names) 67 t_numbers) 70 t_parts) 71 t_sorts) 72 t_values) (xy_l L 76 t_ways) (xy_s S 57 0 ((0 : Int32)))))) (fun K => rfl) ?_
  rcases xb_if h with ⟨hc1001, h⟩ | ⟨hc1001, h⟩
  · refine xe_pos hc1001 (xe_k ?_)
    refine xe_sub [true, false, true, true] (lv' := [(0, .ref 59), (2, .int a2), (3, .int q1000)]) rfl ?_
    exact xh_rf_told_57_27 ok A L S t_items t_kindLetters t_kindNames t_kinds t_letters t_lines t_names t_numbers t_parts t_sorts t_values n t_depths ((0 : Int32)) t_ways a2 q1000 _ h
  · refine xe_neg hc1001 (xe_k ?_)
    refine xe_seg ok 2 (G := (fun K => if a2 < (0 : Int32) then K (70, xm_i70, xm_I70, 0, 0, 27, [(0, .ref 59), (1, .int a1), (2, .int a2), (3, .int q1000)], [.ref 59], xw_W (xy_a (xy_a (xy_a (xy_a (xy_a (xy_a (xy_a (xy_a (xy_a (xy_a (xy_a (xy_a A 74 t_depths) 73 t_items) 61 t_kindLetters) 62 t_kindNames) 60 t_kinds) 68 t_letters) 66 t_lines) 69 t_names) 67 t_numbers) 70 t_parts) 71 t_sorts) 72 t_values) (xy_l L 76 t_ways) (xy_s S 57 0 ((0 : Int32)))) else K (70, xm_i70, xm_I70, 0, 0, 22, [(0, .ref 59), (1, .int a1), (2, .int a2), (3, .int q1000)], [.ref 59], xw_W (xy_a (xy_a (xy_a (xy_a (xy_a (xy_a (xy_a (xy_a (xy_a (xy_a (xy_a (xy_a A 74 t_depths) 73 t_items) 61 t_kindLetters) 62 t_kindNames) 60 t_kinds) 68 t_letters) 66 t_lines) 69 t_names) 67 t_numbers) 70 t_parts) 71 t_sorts) 72 t_values) (xy_l L 76 t_ways) (xy_s S 57 0 ((0 : Int32)))))) (fun K => rfl) ?_
    rcases xb_if h with ⟨hc1069, h⟩ | ⟨hc1069, h⟩
    · refine xe_pos hc1069 (xe_k ?_)
      refine xe_sub [true, false, true, true] (lv' := [(0, .ref 59), (2, .int a2), (3, .int q1000)]) rfl ?_
      exact xh_rf_told_57_27 ok A L S t_items t_kindLetters t_kindNames t_kinds t_letters t_lines t_names t_numbers t_parts t_sorts t_values n t_depths ((0 : Int32)) t_ways a2 q1000 _ h
    · refine xe_neg hc1069 (xe_k ?_)
      refine xe_seg ok 3 (G := (fun K => if ((3 : Int32)) < a2 then K (70, xm_i70, xm_I70, 0, 0, 27, [(0, .ref 59), (1, .int a1), (2, .int a2), (3, .int q1000)], [.ref 59], xw_W (xy_a (xy_a (xy_a (xy_a (xy_a (xy_a (xy_a (xy_a (xy_a (xy_a (xy_a (xy_a A 74 t_depths) 73 t_items) 61 t_kindLetters) 62 t_kindNames) 60 t_kinds) 68 t_letters) 66 t_lines) 69 t_names) 67 t_numbers) 70 t_parts) 71 t_sorts) 72 t_values) (xy_l L 76 t_ways) (xy_s S 57 0 ((0 : Int32)))) else K (70, xm_i70, xm_I70, 0, 0, 31, [(0, .ref 59), (1, .int a1), (2, .int a2), (3, .int q1000)], [.ref 59], xw_W (xy_a (xy_a (xy_a (xy_a (xy_a (xy_a (xy_a (xy_a (xy_a (xy_a (xy_a (xy_a A 74 t_depths) 73 t_items) 61 t_kindLetters) 62 t_kindNames) 60 t_kinds) 68 t_letters) 66 t_lines) 69 t_names) 67 t_numbers) 70 t_parts) 71 t_sorts) 72 t_values) (xy_l L 76 t_ways) (xy_s S 57 0 ((0 : Int32)))))) (fun K => rfl) ?_
      rcases xb_if h with ⟨hc1070, h⟩ | ⟨hc1070, h⟩
      · refine xe_pos hc1070 (xe_k ?_)
        refine xe_sub [true, false, true, true] (lv' := [(0, .ref 59), (2, .int a2), (3, .int q1000)]) rfl ?_
        exact xh_rf_told_57_27 ok A L S t_items t_kindLetters t_kindNames t_kinds t_letters t_lines t_names t_numbers t_parts t_sorts t_values n t_depths ((0 : Int32)) t_ways a2 q1000 _ h
      · refine xe_neg hc1070 (xe_k ?_)
        refine xe_seg ok 1 (G := (fun K => K (70, xm_i70, xm_I70, 0, 0, 32, [(0, .ref 59), (1, .int a1), (2, .int a2), (3, .int q1000)], [.int ((0 : Int32)), .ref 59], xw_W (xy_a (xy_a (xy_a (xy_a (xy_a (xy_a (xy_a (xy_a (xy_a (xy_a (xy_a (xy_a A 74 t_depths) 73 t_items) 61 t_kindLetters) 62 t_kindNames) 60 t_kinds) 68 t_letters) 66 t_lines) 69 t_names) 67 t_numbers) 70 t_parts) 71 t_sorts) 72 t_values) (xy_l L 76 t_ways) (xy_s S 57 0 ((0 : Int32)))))) (fun K => rfl) ?_
        refine xe_k ?_
        refine xe_sub [true, false, true, true] (lv' := [(0, .ref 59), (2, .int a2), (3, .int q1000)]) rfl ?_
        exact xh_rf_told_57_32 ok A L S t_items t_kindLetters t_kindNames t_kinds t_letters t_lines t_names t_numbers t_parts t_sorts t_values n t_depths ((0 : Int32)) t_ways a2 q1000 ((0 : Int32)) _ h
theorem xh_rf_argumentAt_57_36 {l : Launch} {g : xr_G} (ok : xr_OK xm_P) (A : Nat → Nat → Int32) (L : Nat → Nat → Int64) (S : Nat → Nat → Int32) (t_lines : (Nat → Int32)) (t_numbers : (Nat → Int32)) (t_parts : (Nat → Int32)) (n : Nat) : ∀ (s0 : Int32) (r : (Int32)), xf_rf_argumentAt_36 t_lines t_numbers t_parts n s0 = some r → xV xm_P l g (71, xm_i71, xm_I71, 0, 0, 36, [], [.int s0], xw_W (xy_a (xy_a (xy_a A 66 t_lines) 67 t_numbers) 70 t_parts) L S) (.inl (some (.int r)), xw_W (xy_a (xy_a (xy_a A 66 t_lines) 67 t_numbers) 70 t_parts) L S) := by
  intro s0 r h
  unfold xf_rf_argumentAt_36 at h
  obtain rfl := Option.some.inj h
  refine xe_seg ok 1 (G := (fun _ => some (.inl (some (.int s0)), xw_W (xy_a (xy_a (xy_a A 66 t_lines) 67 t_numbers) 70 t_parts) L S))) (fun K => rfl) ?_
  exact xe_ret
theorem xh_rf_argumentAt_57_26 {l : Launch} {g : xr_G} (ok : xr_OK xm_P) (A : Nat → Nat → Int32) (L : Nat → Nat → Int64) (S : Nat → Nat → Int32) (t_lines : (Nat → Int32)) (t_numbers : (Nat → Int32)) (t_parts : (Nat → Int32)) (n : Nat) : ∀  (r : (Int32)), xf_rf_argumentAt_26 t_lines t_numbers t_parts n  = some r → xV xm_P l g (71, xm_i71, xm_I71, 0, 0, 26, [], [], xw_W (xy_a (xy_a (xy_a A 66 t_lines) 67 t_numbers) 70 t_parts) L S) (.inl (some (.int r)), xw_W (xy_a (xy_a (xy_a A 66 t_lines) 67 t_numbers) 70 t_parts) L S) := by
  intro  r h
  unfold xf_rf_argumentAt_26 at h
  refine xe_seg ok 2 (G := (fun K => K (71, xm_i71, xm_I71, 0, 0, 36, [], [.int ((-1 : Int32))], xw_W (xy_a (xy_a (xy_a A 66 t_lines) 67 t_numbers) 70 t_parts) L S))) (fun K => rfl) ?_
  refine xe_k ?_
  refine xe_sub [] (lv' := []) rfl ?_
  exact xh_rf_argumentAt_57_36 ok A L S t_lines t_numbers t_parts n ((-1 : Int32)) _ h
theorem xh_rf_argumentAt_57 {l : Launch} {g : xr_G} (ok : xr_OK xm_P) (A : Nat → Nat → Int32) (L : Nat → Nat → Int64) (S : Nat → Nat → Int32) (t_lines : (Nat → Int32)) (t_numbers : (Nat → Int32)) (t_parts : (Nat → Int32)) (n : Nat) : ∀ (a1 : Int32) (a2 : Int32) (r : (Int32)), xf_rf_argumentAt t_lines t_numbers t_parts n a1 a2 = some r → xV xm_P l g (71, xm_i71, xm_I71, 0, 0, 0, [(0, .ref 59), (1, .int a1), (2, .int a2)], [], xw_W (xy_a (xy_a (xy_a A 66 t_lines) 67 t_numbers) 70 t_parts) L S) (.inl (some (.int r)), xw_W (xy_a (xy_a (xy_a A 66 t_lines) 67 t_numbers) 70 t_parts) L S) := by
  intro a1 a2 r h
  unfold xf_rf_argumentAt at h
  refine xe_seg ok 4 (G := (fun K => xr_back K 71 xm_i71 xm_I71 0 0 3 [(0, .ref 59), (1, .int a1), (2, .int a2)] [] 78 true (K (50, xm_i50, xm_I50, 0, 0, 0, [(0, .ref 59), (1, .int ((0 : Int32))), (2, .int a1)], [], xw_W (xy_a (xy_a (xy_a A 66 t_lines) 67 t_numbers) 70 t_parts) L S)))) (fun K => rfl) ?_
  obtain ⟨q1071, hq1071, h⟩ := Option.bind_eq_some_iff.mp h
  have heq1071 := xh_rf_find_57 (l := l) (g := g) ok (xy_a (xy_a (xy_a A 66 t_lines) 67 t_numbers) 70 t_parts) L S t_lines t_numbers n ((0 : Int32)) a1 _ hq1071
  refine xe_call1 (ws' := xw_W (xy_a (xy_a (xy_a A 66 t_lines) 67 t_numbers) 70 t_parts) L S) (by decide) heq1071 (Or.inl rfl) ?_
  refine xe_seg ok 4 (G := (fun K => if q1071 = ((-1 : Int32)) then K (71, xm_i71, xm_I71, 0, 0, 26, [(0, .ref 59), (1, .int a1), (2, .int a2), (3, .int q1071)], [], xw_W (xy_a (xy_a (xy_a A 66 t_lines) 67 t_numbers) 70 t_parts) L S) else K (71, xm_i71, xm_I71, 0, 0, 12, [(0, .ref 59), (1, .int a1), (2, .int a2), (3, .int q1071)], [], xw_W (xy_a (xy_a (xy_a A 66 t_lines) 67 t_numbers) 70 t_parts) L S))) (fun K => rfl) ?_
  rcases xb_if h with ⟨hc1072, h⟩ | ⟨hc1072, h⟩
  · refine xe_pos hc1072 (xe_k ?_)
    refine xe_sub [false, false, false, false] (lv' := []) rfl ?_
    exact xh_rf_argumentAt_57_26 ok A L S t_lines t_numbers t_parts n _ h
  · refine xe_neg hc1072 (xe_k ?_)
    refine xe_seg ok 2 (G := (fun K => if a2 < (0 : Int32) then K (71, xm_i71, xm_I71, 0, 0, 26, [(0, .ref 59), (1, .int a1), (2, .int a2), (3, .int q1071)], [], xw_W (xy_a (xy_a (xy_a A 66 t_lines) 67 t_numbers) 70 t_parts) L S) else K (71, xm_i71, xm_I71, 0, 0, 16, [(0, .ref 59), (1, .int a1), (2, .int a2), (3, .int q1071)], [], xw_W (xy_a (xy_a (xy_a A 66 t_lines) 67 t_numbers) 70 t_parts) L S))) (fun K => rfl) ?_
    rcases xb_if h with ⟨hc1073, h⟩ | ⟨hc1073, h⟩
    · refine xe_pos hc1073 (xe_k ?_)
      refine xe_sub [false, false, false, false] (lv' := []) rfl ?_
      exact xh_rf_argumentAt_57_26 ok A L S t_lines t_numbers t_parts n _ h
    · refine xe_neg hc1073 (xe_k ?_)
      refine xe_seg ok 5 (G := (fun K => if xr_in q1071 120 = true then K (71, xm_i71, xm_I71, 0, 0, 23, [(0, .ref 59), (1, .int a1), (2, .int a2), (3, .int q1071)], [.int (t_parts q1071.toNatClampNeg), .int a2], xw_W (xy_a (xy_a (xy_a A 66 t_lines) 67 t_numbers) 70 t_parts) L S) else none)) (fun K => rfl) ?_
      obtain ⟨hg1074, h⟩ := xn_if h
      refine xe_pos hg1074 (xe_k ?_)
      refine xe_seg ok 1 (G := (fun K => if a2 < (t_parts q1071.toNatClampNeg) then K (71, xm_i71, xm_I71, 0, 0, 30, [(0, .ref 59), (1, .int a1), (2, .int a2), (3, .int q1071)], [], xw_W (xy_a (xy_a (xy_a A 66 t_lines) 67 t_numbers) 70 t_parts) L S) else K (71, xm_i71, xm_I71, 0, 0, 26, [(0, .ref 59), (1, .int a1), (2, .int a2), (3, .int q1071)], [], xw_W (xy_a (xy_a (xy_a A 66 t_lines) 67 t_numbers) 70 t_parts) L S))) (fun K => rfl) ?_
      rcases xb_if h with ⟨hc1075, h⟩ | ⟨hc1075, h⟩
      · refine xe_pos hc1075 (xe_k ?_)
        refine xe_seg ok 5 (G := (fun K => K (71, xm_i71, xm_I71, 0, 0, 36, [(0, .ref 59), (1, .int a1), (2, .int a2), (3, .int q1071)], [.int ((((8 : Int32)) * q1071) + a2)], xw_W (xy_a (xy_a (xy_a A 66 t_lines) 67 t_numbers) 70 t_parts) L S))) (fun K => rfl) ?_
        refine xe_k ?_
        refine xe_sub [false, false, false, false] (lv' := []) rfl ?_
        exact xh_rf_argumentAt_57_36 ok A L S t_lines t_numbers t_parts n ((((8 : Int32)) * q1071) + a2) _ h
      · refine xe_neg hc1075 (xe_k ?_)
        refine xe_sub [false, false, false, false] (lv' := []) rfl ?_
        exact xh_rf_argumentAt_57_26 ok A L S t_lines t_numbers t_parts n _ h
theorem xh_rf_argument3_57_64 {l : Launch} {g : xr_G} (ok : xr_OK xm_P) (A : Nat → Nat → Int32) (L : Nat → Nat → Int64) (S : Nat → Nat → Int32) (t_lines : (Nat → Int32)) (t_numbers : (Nat → Int32)) (t_parts : (Nat → Int32)) (t_sorts : (Nat → Int32)) (t_values : (Nat → Int32)) (n : Nat) : ∀ (t_thrown : Int32) (s0 : Int32) (r : (Int32 × Int32)), xf_rf_argument3_64 t_lines t_numbers t_parts t_sorts t_values n t_thrown s0 = some r → xV xm_P l g (72, xm_i72, xm_I72, 0, 0, 64, [], [.int s0], xw_W (xy_a (xy_a (xy_a (xy_a (xy_a A 66 t_lines) 67 t_numbers) 70 t_parts) 71 t_sorts) 72 t_values) L (xy_s S 57 0 t_thrown)) (.inl (some (.int r.1)), xw_W (xy_a (xy_a (xy_a (xy_a (xy_a A 66 t_lines) 67 t_numbers) 70 t_parts) 71 t_sorts) 72 t_values) L (xy_s S 57 0 r.2)) := by
  intro t_thrown s0 r h
  unfold xf_rf_argument3_64 at h
  obtain rfl := Option.some.inj h
  refine xe_seg ok 1 (G := (fun _ => some (.inl (some (.int s0)), xw_W (xy_a (xy_a (xy_a (xy_a (xy_a A 66 t_lines) 67 t_numbers) 70 t_parts) 71 t_sorts) 72 t_values) L (xy_s S 57 0 t_thrown)))) (fun K => rfl) ?_
  exact xe_ret
theorem xh_rf_argument3_57_34 {l : Launch} {g : xr_G} (ok : xr_OK xm_P) (A : Nat → Nat → Int32) (L : Nat → Nat → Int64) (S : Nat → Nat → Int32) (t_lines : (Nat → Int32)) (t_numbers : (Nat → Int32)) (t_parts : (Nat → Int32)) (t_sorts : (Nat → Int32)) (t_values : (Nat → Int32)) (n : Nat) : ∀ (t_thrown : Int32) (v3 : Int32) (v4 : Int32) (s1 : Int32) (r : (Int32 × Int32)), xf_rf_argument3_34 t_lines t_numbers t_parts t_sorts t_values n t_thrown v3 v4 s1 = some r → xV xm_P l g (72, xm_i72, xm_I72, 0, 0, 34, [(0, .ref 59), (3, .int v3), (4, .int v4)], [.int s1, .ref 59], xw_W (xy_a (xy_a (xy_a (xy_a (xy_a A 66 t_lines) 67 t_numbers) 70 t_parts) 71 t_sorts) 72 t_values) L (xy_s S 57 0 t_thrown)) (.inl (some (.int r.1)), xw_W (xy_a (xy_a (xy_a (xy_a (xy_a A 66 t_lines) 67 t_numbers) 70 t_parts) 71 t_sorts) 72 t_values) L (xy_s S 57 0 r.2)) := by
  intro t_thrown v3 v4 s1 r h
  unfold xf_rf_argument3_34 at h
  refine xe_seg ok 2 (G := (fun K => xr_back K 72 xm_i72 xm_I72 0 0 35 [(0, .ref 59), (3, .int v3), (4, .int v4)] [] 78 true (K (32, xm_i32, xm_I32, 0, 0, 0, [(0, .ref 59), (1, .int s1), (2, .int ((1 : Int32)))], [], xw_W (xy_a (xy_a (xy_a (xy_a (xy_a A 66 t_lines) 67 t_numbers) 70 t_parts) 71 t_sorts) 72 t_values) L (xy_s S 57 0 t_thrown))))) (fun K => rfl) ?_
  obtain ⟨q1078, hq1078, h⟩ := Option.bind_eq_some_iff.mp h
  have heq1078 := xh_rf_fails_57 (l := l) (g := g) ok (xy_a (xy_a (xy_a (xy_a (xy_a A 66 t_lines) 67 t_numbers) 70 t_parts) 71 t_sorts) 72 t_values) L (xy_s S 57 0 t_thrown) t_thrown s1 ((1 : Int32)) _ hq1078
  refine xe_call1 (ws' := xw_W (xy_a (xy_a (xy_a (xy_a (xy_a A 66 t_lines) 67 t_numbers) 70 t_parts) 71 t_sorts) 72 t_values) L (xy_s S 57 0 q1078.2)) (by decide) heq1078 (Or.inl rfl) ?_
  refine xe_seg ok 1 (G := (fun K => if q1078.1 = (0 : Int32) then K (72, xm_i72, xm_I72, 0, 0, 43, [(0, .ref 59), (3, .int v3), (4, .int v4)], [], xw_W (xy_a (xy_a (xy_a (xy_a (xy_a A 66 t_lines) 67 t_numbers) 70 t_parts) 71 t_sorts) 72 t_values) L (xy_s S 57 0 q1078.2)) else K (72, xm_i72, xm_I72, 0, 0, 41, [(0, .ref 59), (3, .int v3), (4, .int v4)], [], xw_W (xy_a (xy_a (xy_a (xy_a (xy_a A 66 t_lines) 67 t_numbers) 70 t_parts) 71 t_sorts) 72 t_values) L (xy_s S 57 0 q1078.2)))) (fun K => rfl) ?_
  rcases xb_if h with ⟨hc1079, h⟩ | ⟨hc1079, h⟩
  · refine xe_pos hc1079 (xe_k ?_)
    refine xe_seg ok 2 (G := (fun K => if v3 = (0 : Int32) then K (72, xm_i72, xm_I72, 0, 0, 47, [(0, .ref 59), (3, .int v3), (4, .int v4)], [], xw_W (xy_a (xy_a (xy_a (xy_a (xy_a A 66 t_lines) 67 t_numbers) 70 t_parts) 71 t_sorts) 72 t_values) L (xy_s S 57 0 q1078.2)) else K (72, xm_i72, xm_I72, 0, 0, 57, [(0, .ref 59), (3, .int v3), (4, .int v4)], [], xw_W (xy_a (xy_a (xy_a (xy_a (xy_a A 66 t_lines) 67 t_numbers) 70 t_parts) 71 t_sorts) 72 t_values) L (xy_s S 57 0 q1078.2)))) (fun K => rfl) ?_
    rcases xb_if h with ⟨hc1080, h⟩ | ⟨hc1080, h⟩
    · refine xe_pos hc1080 (xe_k ?_)
      refine xe_seg ok 4 (G := (fun K => if xr_in v4 960 = true then K (72, xm_i72, xm_I72, 0, 0, 54, [(0, .ref 59), (3, .int v3), (4, .int v4)], [.int (t_sorts v4.toNatClampNeg)], xw_W (xy_a (xy_a (xy_a (xy_a (xy_a A 66 t_lines) 67 t_numbers) 70 t_parts) 71 t_sorts) 72 t_values) L (xy_s S 57 0 q1078.2)) else none)) (fun K => rfl) ?_
      obtain ⟨hg1081, h⟩ := xn_if h
      refine xe_pos hg1081 (xe_k ?_)
      refine xe_seg ok 1 (G := (fun K => K (72, xm_i72, xm_I72, 0, 0, 64, [(0, .ref 59), (3, .int v3), (4, .int v4)], [.int (t_sorts v4.toNatClampNeg)], xw_W (xy_a (xy_a (xy_a (xy_a (xy_a A 66 t_lines) 67 t_numbers) 70 t_parts) 71 t_sorts) 72 t_values) L (xy_s S 57 0 q1078.2)))) (fun K => rfl) ?_
      refine xe_k ?_
      refine xe_sub [false, false, false] (lv' := []) rfl ?_
      exact xh_rf_argument3_57_64 ok A L S t_lines t_numbers t_parts t_sorts t_values n q1078.2 (t_sorts v4.toNatClampNeg) _ h
    · refine xe_neg hc1080 (xe_k ?_)
      refine xe_seg ok 4 (G := (fun K => if xr_in v4 960 = true then K (72, xm_i72, xm_I72, 0, 0, 64, [(0, .ref 59), (3, .int v3), (4, .int v4)], [.int (t_values v4.toNatClampNeg)], xw_W (xy_a (xy_a (xy_a (xy_a (xy_a A 66 t_lines) 67 t_numbers) 70 t_parts) 71 t_sorts) 72 t_values) L (xy_s S 57 0 q1078.2)) else none)) (fun K => rfl) ?_
      obtain ⟨hg1082, h⟩ := xn_if h
      refine xe_pos hg1082 (xe_k ?_)
      refine xe_sub [false, false, false] (lv' := []) rfl ?_
      exact xh_rf_argument3_57_64 ok A L S t_lines t_numbers t_parts t_sorts t_values n q1078.2 (t_values v4.toNatClampNeg) _ h
  · refine xe_neg hc1079 (xe_k ?_)
    obtain rfl := Option.some.inj h
    refine xe_seg ok 2 (G := (fun _ => some (.inl (some (.int ((0 : Int32)))), xw_W (xy_a (xy_a (xy_a (xy_a (xy_a A 66 t_lines) 67 t_numbers) 70 t_parts) 71 t_sorts) 72 t_values) L (xy_s S 57 0 q1078.2)))) (fun K => rfl) ?_
    exact xe_ret
theorem xh_rf_argument3_57_29 {l : Launch} {g : xr_G} (ok : xr_OK xm_P) (A : Nat → Nat → Int32) (L : Nat → Nat → Int64) (S : Nat → Nat → Int32) (t_lines : (Nat → Int32)) (t_numbers : (Nat → Int32)) (t_parts : (Nat → Int32)) (t_sorts : (Nat → Int32)) (t_values : (Nat → Int32)) (n : Nat) : ∀ (t_thrown : Int32) (v3 : Int32) (v4 : Int32) (r : (Int32 × Int32)), xf_rf_argument3_29 t_lines t_numbers t_parts t_sorts t_values n t_thrown v3 v4 = some r → xV xm_P l g (72, xm_i72, xm_I72, 0, 0, 29, [(0, .ref 59), (3, .int v3), (4, .int v4)], [.ref 59], xw_W (xy_a (xy_a (xy_a (xy_a (xy_a A 66 t_lines) 67 t_numbers) 70 t_parts) 71 t_sorts) 72 t_values) L (xy_s S 57 0 t_thrown)) (.inl (some (.int r.1)), xw_W (xy_a (xy_a (xy_a (xy_a (xy_a A 66 t_lines) 67 t_numbers) 70 t_parts) 71 t_sorts) 72 t_values) L (xy_s S 57 0 r.2)) := by
  intro t_thrown v3 v4 r h
  unfold xf_rf_argument3_29 at h
  refine xe_seg ok 2 (G := (fun K => K (72, xm_i72, xm_I72, 0, 0, 34, [(0, .ref 59), (3, .int v3), (4, .int v4)], [.int ((1 : Int32)), .ref 59], xw_W (xy_a (xy_a (xy_a (xy_a (xy_a A 66 t_lines) 67 t_numbers) 70 t_parts) 71 t_sorts) 72 t_values) L (xy_s S 57 0 t_thrown)))) (fun K => rfl) ?_
  refine xe_k ?_
  refine xe_sub [true, true, true] (lv' := [(0, .ref 59), (3, .int v3), (4, .int v4)]) rfl ?_
  exact xh_rf_argument3_57_34 ok A L S t_lines t_numbers t_parts t_sorts t_values n t_thrown v3 v4 ((1 : Int32)) _ h
theorem xh_rf_argument3_57 {l : Launch} {g : xr_G} (ok : xr_OK xm_P) (A : Nat → Nat → Int32) (L : Nat → Nat → Int64) (S : Nat → Nat → Int32) (t_lines : (Nat → Int32)) (t_numbers : (Nat → Int32)) (t_parts : (Nat → Int32)) (t_sorts : (Nat → Int32)) (t_values : (Nat → Int32)) (n : Nat) : ∀ (t_thrown : Int32) (a1 : Int32) (a2 : Int32) (a3 : Int32) (r : (Int32 × Int32)), xf_rf_argument3 t_lines t_numbers t_parts t_sorts t_values n t_thrown a1 a2 a3 = some r → xV xm_P l g (72, xm_i72, xm_I72, 0, 0, 0, [(0, .ref 59), (1, .int a1), (2, .int a2), (3, .int a3)], [], xw_W (xy_a (xy_a (xy_a (xy_a (xy_a A 66 t_lines) 67 t_numbers) 70 t_parts) 71 t_sorts) 72 t_values) L (xy_s S 57 0 t_thrown)) (.inl (some (.int r.1)), xw_W (xy_a (xy_a (xy_a (xy_a (xy_a A 66 t_lines) 67 t_numbers) 70 t_parts) 71 t_sorts) 72 t_values) L (xy_s S 57 0 r.2)) := by
  intro t_thrown a1 a2 a3 r h
  unfold xf_rf_argument3 at h
  refine xe_seg ok 7 (G := (fun K => xr_back K 72 xm_i72 xm_I72 0 0 8 [(0, .ref 59), (1, .int a1), (2, .int a2), (3, .int a3)] [] 78 true (K (71, xm_i71, xm_I71, 0, 0, 0, [(0, .ref 59), (1, .int a1), (2, .int a2)], [], xw_W (xy_a (xy_a (xy_a (xy_a (xy_a A 66 t_lines) 67 t_numbers) 70 t_parts) 71 t_sorts) 72 t_values) L (xy_s S 57 0 ((0 : Int32))))))) (fun K => rfl) ?_
  obtain ⟨q1076, hq1076, h⟩ := Option.bind_eq_some_iff.mp h
  have heq1076 := xh_rf_argumentAt_57 (l := l) (g := g) ok (xy_a (xy_a (xy_a (xy_a (xy_a A 66 t_lines) 67 t_numbers) 70 t_parts) 71 t_sorts) 72 t_values) L (xy_s S 57 0 ((0 : Int32))) t_lines t_numbers t_parts n a1 a2 _ hq1076
  refine xe_call1 (ws' := xw_W (xy_a (xy_a (xy_a (xy_a (xy_a A 66 t_lines) 67 t_numbers) 70 t_parts) 71 t_sorts) 72 t_values) L (xy_s S 57 0 ((0 : Int32)))) (by decide) heq1076 (Or.inl rfl) ?_
  refine xe_seg ok 5 (G := (fun K => if q1076 = ((-1 : Int32)) then K (72, xm_i72, xm_I72, 0, 0, 29, [(0, .ref 59), (1, .int a1), (2, .int a2), (3, .int a3), (4, .int q1076)], [.ref 59], xw_W (xy_a (xy_a (xy_a (xy_a (xy_a A 66 t_lines) 67 t_numbers) 70 t_parts) 71 t_sorts) 72 t_values) L (xy_s S 57 0 ((0 : Int32)))) else K (72, xm_i72, xm_I72, 0, 0, 20, [(0, .ref 59), (1, .int a1), (2, .int a2), (3, .int a3), (4, .int q1076)], [.ref 59], xw_W (xy_a (xy_a (xy_a (xy_a (xy_a A 66 t_lines) 67 t_numbers) 70 t_parts) 71 t_sorts) 72 t_values) L (xy_s S 57 0 ((0 : Int32)))))) (fun K => rfl) ?_
  rcases xb_if h with ⟨hc1077, h⟩ | ⟨hc1077, h⟩
  · refine xe_pos hc1077 (xe_k ?_)
    refine xe_sub [true, false, false, true, true] (lv' := [(0, .ref 59), (3, .int a3), (4, .int q1076)]) rfl ?_
    exact xh_rf_argument3_57_29 ok A L S t_lines t_numbers t_parts t_sorts t_values n ((0 : Int32)) a3 q1076 _ h
  · refine xe_neg hc1077 (xe_k ?_)
    refine xe_seg ok 2 (G := (fun K => if a3 < (0 : Int32) then K (72, xm_i72, xm_I72, 0, 0, 29, [(0, .ref 59), (1, .int a1), (2, .int a2), (3, .int a3), (4, .int q1076)], [.ref 59], xw_W (xy_a (xy_a (xy_a (xy_a (xy_a A 66 t_lines) 67 t_numbers) 70 t_parts) 71 t_sorts) 72 t_values) L (xy_s S 57 0 ((0 : Int32)))) else K (72, xm_i72, xm_I72, 0, 0, 24, [(0, .ref 59), (1, .int a1), (2, .int a2), (3, .int a3), (4, .int q1076)], [.ref 59], xw_W (xy_a (xy_a (xy_a (xy_a (xy_a A 66 t_lines) 67 t_numbers) 70 t_parts) 71 t_sorts) 72 t_values) L (xy_s S 57 0 ((0 : Int32)))))) (fun K => rfl) ?_
    rcases xb_if h with ⟨hc1083, h⟩ | ⟨hc1083, h⟩
    · refine xe_pos hc1083 (xe_k ?_)
      refine xe_sub [true, false, false, true, true] (lv' := [(0, .ref 59), (3, .int a3), (4, .int q1076)]) rfl ?_
      exact xh_rf_argument3_57_29 ok A L S t_lines t_numbers t_parts t_sorts t_values n ((0 : Int32)) a3 q1076 _ h
    · refine xe_neg hc1083 (xe_k ?_)
      refine xe_seg ok 3 (G := (fun K => if ((1 : Int32)) < a3 then K (72, xm_i72, xm_I72, 0, 0, 29, [(0, .ref 59), (1, .int a1), (2, .int a2), (3, .int a3), (4, .int q1076)], [.ref 59], xw_W (xy_a (xy_a (xy_a (xy_a (xy_a A 66 t_lines) 67 t_numbers) 70 t_parts) 71 t_sorts) 72 t_values) L (xy_s S 57 0 ((0 : Int32)))) else K (72, xm_i72, xm_I72, 0, 0, 33, [(0, .ref 59), (1, .int a1), (2, .int a2), (3, .int a3), (4, .int q1076)], [.ref 59], xw_W (xy_a (xy_a (xy_a (xy_a (xy_a A 66 t_lines) 67 t_numbers) 70 t_parts) 71 t_sorts) 72 t_values) L (xy_s S 57 0 ((0 : Int32)))))) (fun K => rfl) ?_
      rcases xb_if h with ⟨hc1084, h⟩ | ⟨hc1084, h⟩
      · refine xe_pos hc1084 (xe_k ?_)
        refine xe_sub [true, false, false, true, true] (lv' := [(0, .ref 59), (3, .int a3), (4, .int q1076)]) rfl ?_
        exact xh_rf_argument3_57_29 ok A L S t_lines t_numbers t_parts t_sorts t_values n ((0 : Int32)) a3 q1076 _ h
      · refine xe_neg hc1084 (xe_k ?_)
        refine xe_seg ok 1 (G := (fun K => K (72, xm_i72, xm_I72, 0, 0, 34, [(0, .ref 59), (1, .int a1), (2, .int a2), (3, .int a3), (4, .int q1076)], [.int ((0 : Int32)), .ref 59], xw_W (xy_a (xy_a (xy_a (xy_a (xy_a A 66 t_lines) 67 t_numbers) 70 t_parts) 71 t_sorts) 72 t_values) L (xy_s S 57 0 ((0 : Int32)))))) (fun K => rfl) ?_
        refine xe_k ?_
        refine xe_sub [true, false, false, true, true] (lv' := [(0, .ref 59), (3, .int a3), (4, .int q1076)]) rfl ?_
        exact xh_rf_argument3_57_34 ok A L S t_lines t_numbers t_parts t_sorts t_values n ((0 : Int32)) a3 q1076 ((0 : Int32)) _ h
theorem xh_rf_item_57_85 {l : Launch} {g : xr_G} (ok : xr_OK xm_P) (A : Nat → Nat → Int32) (L : Nat → Nat → Int64) (S : Nat → Nat → Int32) (t_items : (Nat → Int32)) (t_lines : (Nat → Int32)) (t_numbers : (Nat → Int32)) (t_parts : (Nat → Int32)) (t_sorts : (Nat → Int32)) (t_values : (Nat → Int32)) (n : Nat) : ∀ (t_thrown : Int32) (v3 : Int32) (v4 : Int32) (s1 : Int32) (r : (Int32 × Int32)), xf_rf_item_85 t_items t_lines t_numbers t_parts t_sorts t_values n t_thrown v3 v4 s1 = some r → xV xm_P l g (73, xm_i73, xm_I73, 0, 0, 85, [(0, .ref 59), (3, .int v3), (4, .int v4)], [.int s1, .ref 59], xw_W (xy_a (xy_a (xy_a (xy_a (xy_a (xy_a A 73 t_items) 66 t_lines) 67 t_numbers) 70 t_parts) 71 t_sorts) 72 t_values) L (xy_s S 57 0 t_thrown)) (.inl (some (.int r.1)), xw_W (xy_a (xy_a (xy_a (xy_a (xy_a (xy_a A 73 t_items) 66 t_lines) 67 t_numbers) 70 t_parts) 71 t_sorts) 72 t_values) L (xy_s S 57 0 r.2)) := by
  intro t_thrown v3 v4 s1 r h
  unfold xf_rf_item_85 at h
  refine xe_seg ok 2 (G := (fun K => xr_back K 73 xm_i73 xm_I73 0 0 86 [(0, .ref 59), (3, .int v3), (4, .int v4)] [] 78 true (K (32, xm_i32, xm_I32, 0, 0, 0, [(0, .ref 59), (1, .int s1), (2, .int ((1 : Int32)))], [], xw_W (xy_a (xy_a (xy_a (xy_a (xy_a (xy_a A 73 t_items) 66 t_lines) 67 t_numbers) 70 t_parts) 71 t_sorts) 72 t_values) L (xy_s S 57 0 t_thrown))))) (fun K => rfl) ?_
  obtain ⟨q1088, hq1088, h⟩ := Option.bind_eq_some_iff.mp h
  have heq1088 := xh_rf_fails_57 (l := l) (g := g) ok (xy_a (xy_a (xy_a (xy_a (xy_a (xy_a A 73 t_items) 66 t_lines) 67 t_numbers) 70 t_parts) 71 t_sorts) 72 t_values) L (xy_s S 57 0 t_thrown) t_thrown s1 ((1 : Int32)) _ hq1088
  refine xe_call1 (ws' := xw_W (xy_a (xy_a (xy_a (xy_a (xy_a (xy_a A 73 t_items) 66 t_lines) 67 t_numbers) 70 t_parts) 71 t_sorts) 72 t_values) L (xy_s S 57 0 q1088.2)) (by decide) heq1088 (Or.inl rfl) ?_
  refine xe_seg ok 1 (G := (fun K => if q1088.1 = (0 : Int32) then K (73, xm_i73, xm_I73, 0, 0, 94, [(0, .ref 59), (3, .int v3), (4, .int v4)], [], xw_W (xy_a (xy_a (xy_a (xy_a (xy_a (xy_a A 73 t_items) 66 t_lines) 67 t_numbers) 70 t_parts) 71 t_sorts) 72 t_values) L (xy_s S 57 0 q1088.2)) else K (73, xm_i73, xm_I73, 0, 0, 92, [(0, .ref 59), (3, .int v3), (4, .int v4)], [], xw_W (xy_a (xy_a (xy_a (xy_a (xy_a (xy_a A 73 t_items) 66 t_lines) 67 t_numbers) 70 t_parts) 71 t_sorts) 72 t_values) L (xy_s S 57 0 q1088.2)))) (fun K => rfl) ?_
  rcases xb_if h with ⟨hc1089, h⟩ | ⟨hc1089, h⟩
  · refine xe_pos hc1089 (xe_k ?_)
    refine xe_seg ok 8 (G := (fun K => if xr_in ((((20 : Int32)) * v4) + v3) 19200 = true then K (73, xm_i73, xm_I73, 0, 0, 106, [(0, .ref 59), (3, .int v3), (4, .int v4)], [.int (t_items ((((20 : Int32)) * v4) + v3).toNatClampNeg)], xw_W (xy_a (xy_a (xy_a (xy_a (xy_a (xy_a A 73 t_items) 66 t_lines) 67 t_numbers) 70 t_parts) 71 t_sorts) 72 t_values) L (xy_s S 57 0 q1088.2)) else none)) (fun K => rfl) ?_
    obtain ⟨hg1090, h⟩ := xn_if h
    refine xe_pos hg1090 (xe_k ?_)
    obtain rfl := Option.some.inj h
    refine xe_seg ok 1 (G := (fun _ => some (.inl (some (.int (t_items ((((20 : Int32)) * v4) + v3).toNatClampNeg))), xw_W (xy_a (xy_a (xy_a (xy_a (xy_a (xy_a A 73 t_items) 66 t_lines) 67 t_numbers) 70 t_parts) 71 t_sorts) 72 t_values) L (xy_s S 57 0 q1088.2)))) (fun K => rfl) ?_
    exact xe_ret
  · refine xe_neg hc1089 (xe_k ?_)
    obtain rfl := Option.some.inj h
    refine xe_seg ok 2 (G := (fun _ => some (.inl (some (.int ((0 : Int32)))), xw_W (xy_a (xy_a (xy_a (xy_a (xy_a (xy_a A 73 t_items) 66 t_lines) 67 t_numbers) 70 t_parts) 71 t_sorts) 72 t_values) L (xy_s S 57 0 q1088.2)))) (fun K => rfl) ?_
    exact xe_ret
