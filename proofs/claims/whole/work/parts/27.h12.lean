theorem xh_rf_ring_57 {l : Launch} {g : xr_G} (ok : xr_OK xm_P) (A : Nat → Nat → Int32) (L : Nat → Nat → Int64) (S : Nat → Nat → Int32) (t_items : (Nat → Int32)) (t_lines : (Nat → Int32)) (t_numbers : (Nat → Int32)) (t_parts : (Nat → Int32)) (t_sorts : (Nat → Int32)) (t_values : (Nat → Int32)) (n : Nat) : ∀ (t_depths : (Nat → Int32)) (t_thrown : Int32) (t_ways : (Nat → Int64)) (a1 : Int32) (r : (Int32 × (Nat → Int32) × Int32 × (Nat → Int64))), xf_rf_ring t_items t_lines t_numbers t_parts t_sorts t_values n t_depths t_thrown t_ways a1 = some r → xV xm_P l g (79, xm_i79, xm_I79, 0, 0, 0, [(0, .ref 59), (1, .int a1)], [], xw_W (xy_a (xy_a (xy_a (xy_a (xy_a (xy_a (xy_a A 74 t_depths) 73 t_items) 66 t_lines) 67 t_numbers) 70 t_parts) 71 t_sorts) 72 t_values) (xy_l L 76 t_ways) (xy_s S 57 0 t_thrown)) (.inl (some (.int r.1)), xw_W (xy_a (xy_a (xy_a (xy_a (xy_a (xy_a (xy_a A 74 r.2.1) 73 t_items) 66 t_lines) 67 t_numbers) 70 t_parts) 71 t_sorts) 72 t_values) (xy_l L 76 r.2.2.2) (xy_s S 57 0 r.2.2.1)) := by
  intro t_depths t_thrown t_ways a1 r h
  unfold xf_rf_ring at h
  refine xe_seg ok 6 (G := (fun K => if a1 < (0 : Int32) then K (79, xm_i79, xm_I79, 0, 0, 10, [(0, .ref 59), (1, .int a1)], [.ref 59], xw_W (xy_a (xy_a (xy_a (xy_a (xy_a (xy_a (xy_a A 74 t_depths) 73 t_items) 66 t_lines) 67 t_numbers) 70 t_parts) 71 t_sorts) 72 t_values) (xy_l L 76 t_ways) (xy_s S 57 0 ((0 : Int32)))) else K (79, xm_i79, xm_I79, 0, 0, 14, [(0, .ref 59), (1, .int a1)], [.ref 59], xw_W (xy_a (xy_a (xy_a (xy_a (xy_a (xy_a (xy_a A 74 t_depths) 73 t_items) 66 t_lines) 67 t_numbers) 70 t_parts) 71 t_sorts) 72 t_values) (xy_l L 76 t_ways) (xy_s S 57 0 ((0 : Int32)))))) (fun K => rfl) ?_
  rcases xb_if h with ⟨hc1158, h⟩ | ⟨hc1158, h⟩
  · refine xe_pos hc1158 (xe_k ?_)
    refine xe_seg ok 2 (G := (fun K => K (79, xm_i79, xm_I79, 0, 0, 15, [(0, .ref 59), (1, .int a1)], [.int ((1 : Int32)), .ref 59], xw_W (xy_a (xy_a (xy_a (xy_a (xy_a (xy_a (xy_a A 74 t_depths) 73 t_items) 66 t_lines) 67 t_numbers) 70 t_parts) 71 t_sorts) 72 t_values) (xy_l L 76 t_ways) (xy_s S 57 0 ((0 : Int32)))))) (fun K => rfl) ?_
    refine xe_k ?_
    refine xe_sub [true, true] (lv' := [(0, .ref 59), (1, .int a1)]) rfl ?_
    exact xh_rf_ring_57_15 ok A L S t_items t_lines t_numbers t_parts t_sorts t_values n t_depths ((0 : Int32)) t_ways a1 ((1 : Int32)) _ h
  · refine xe_neg hc1158 (xe_k ?_)
    refine xe_seg ok 1 (G := (fun K => K (79, xm_i79, xm_I79, 0, 0, 15, [(0, .ref 59), (1, .int a1)], [.int ((0 : Int32)), .ref 59], xw_W (xy_a (xy_a (xy_a (xy_a (xy_a (xy_a (xy_a A 74 t_depths) 73 t_items) 66 t_lines) 67 t_numbers) 70 t_parts) 71 t_sorts) 72 t_values) (xy_l L 76 t_ways) (xy_s S 57 0 ((0 : Int32)))))) (fun K => rfl) ?_
    refine xe_k ?_
    refine xe_sub [true, true] (lv' := [(0, .ref 59), (1, .int a1)]) rfl ?_
    exact xh_rf_ring_57_15 ok A L S t_items t_lines t_numbers t_parts t_sorts t_values n t_depths ((0 : Int32)) t_ways a1 ((0 : Int32)) _ h
theorem xh_rf_isPlaced_57_76 {l : Launch} {g : xr_G} (ok : xr_OK xm_P) (A : Nat → Nat → Int32) (L : Nat → Nat → Int64) (S : Nat → Nat → Int32) (t_parts : (Nat → Int32)) (t_sorts : (Nat → Int32)) : ∀ (s0 : Int32) (r : (Int32)), xf_rf_isPlaced_76 t_parts t_sorts s0 = some r → xV xm_P l g (80, xm_i80, xm_I80, 0, 0, 76, [], [.int s0], xw_W (xy_a (xy_a A 70 t_parts) 71 t_sorts) L S) (.inl (some (.int r)), xw_W (xy_a (xy_a A 70 t_parts) 71 t_sorts) L S) := by
  intro s0 r h
  unfold xf_rf_isPlaced_76 at h
  refine xe_seg ok 1 (G := (fun _ => if fits .boolean (.int s0) = true then some (.inl (some (.int s0)), xw_W (xy_a (xy_a A 70 t_parts) 71 t_sorts) L S) else none)) (fun K => rfl) ?_
  obtain ⟨hg1192, h⟩ := xn_if h
  obtain rfl := Option.some.inj h
  exact xe_pos (A := fun _ => some (.inl (some (.int s0)), xw_W (xy_a (xy_a A 70 t_parts) 71 t_sorts) L S)) (B := fun _ => none) hg1192 xe_ret
theorem xh_rf_isPlaced_57_71 {l : Launch} {g : xr_G} (ok : xr_OK xm_P) (A : Nat → Nat → Int32) (L : Nat → Nat → Int64) (S : Nat → Nat → Int32) (t_parts : (Nat → Int32)) (t_sorts : (Nat → Int32)) : ∀  (r : (Int32)), xf_rf_isPlaced_71 t_parts t_sorts  = some r → xV xm_P l g (80, xm_i80, xm_I80, 0, 0, 71, [], [], xw_W (xy_a (xy_a A 70 t_parts) 71 t_sorts) L S) (.inl (some (.int r)), xw_W (xy_a (xy_a A 70 t_parts) 71 t_sorts) L S) := by
  intro  r h
  unfold xf_rf_isPlaced_71 at h
  refine xe_seg ok 2 (G := (fun K => K (80, xm_i80, xm_I80, 0, 0, 76, [], [.int ((1 : Int32))], xw_W (xy_a (xy_a A 70 t_parts) 71 t_sorts) L S))) (fun K => rfl) ?_
  refine xe_k ?_
  refine xe_sub [] (lv' := []) rfl ?_
  exact xh_rf_isPlaced_57_76 ok A L S t_parts t_sorts ((1 : Int32)) _ h
theorem xh_rf_isPlaced_57_75 {l : Launch} {g : xr_G} (ok : xr_OK xm_P) (A : Nat → Nat → Int32) (L : Nat → Nat → Int64) (S : Nat → Nat → Int32) (t_parts : (Nat → Int32)) (t_sorts : (Nat → Int32)) : ∀  (r : (Int32)), xf_rf_isPlaced_75 t_parts t_sorts  = some r → xV xm_P l g (80, xm_i80, xm_I80, 0, 0, 75, [], [], xw_W (xy_a (xy_a A 70 t_parts) 71 t_sorts) L S) (.inl (some (.int r)), xw_W (xy_a (xy_a A 70 t_parts) 71 t_sorts) L S) := by
  intro  r h
  unfold xf_rf_isPlaced_75 at h
  refine xe_seg ok 1 (G := (fun K => K (80, xm_i80, xm_I80, 0, 0, 76, [], [.int ((0 : Int32))], xw_W (xy_a (xy_a A 70 t_parts) 71 t_sorts) L S))) (fun K => rfl) ?_
  refine xe_k ?_
  refine xe_sub [] (lv' := []) rfl ?_
  exact xh_rf_isPlaced_57_76 ok A L S t_parts t_sorts ((0 : Int32)) _ h
theorem xh_rf_isPlaced_57 {l : Launch} {g : xr_G} (ok : xr_OK xm_P) (A : Nat → Nat → Int32) (L : Nat → Nat → Int64) (S : Nat → Nat → Int32) (t_parts : (Nat → Int32)) (t_sorts : (Nat → Int32)) : ∀ (a1 : Int32) (r : (Int32)), xf_rf_isPlaced t_parts t_sorts a1 = some r → xV xm_P l g (80, xm_i80, xm_I80, 0, 0, 0, [(0, .ref 59), (1, .int a1)], [], xw_W (xy_a (xy_a A 70 t_parts) 71 t_sorts) L S) (.inl (some (.int r)), xw_W (xy_a (xy_a A 70 t_parts) 71 t_sorts) L S) := by
  intro a1 r h
  unfold xf_rf_isPlaced at h
  refine xe_seg ok 8 (G := (fun K => if xr_in a1 120 = true then K (80, xm_i80, xm_I80, 0, 0, 11, [(0, .ref 59), (1, .int a1), (2, .int (((8 : Int32)) * a1))], [.int (t_parts a1.toNatClampNeg)], xw_W (xy_a (xy_a A 70 t_parts) 71 t_sorts) L S) else none)) (fun K => rfl) ?_
  obtain ⟨hg1182, h⟩ := xn_if h
  refine xe_pos hg1182 (xe_k ?_)
  refine xe_seg ok 2 (G := (fun K => if ((3 : Int32)) < (t_parts a1.toNatClampNeg) then K (80, xm_i80, xm_I80, 0, 0, 15, [(0, .ref 59), (1, .int a1), (2, .int (((8 : Int32)) * a1))], [], xw_W (xy_a (xy_a A 70 t_parts) 71 t_sorts) L S) else K (80, xm_i80, xm_I80, 0, 0, 75, [(0, .ref 59), (1, .int a1), (2, .int (((8 : Int32)) * a1))], [], xw_W (xy_a (xy_a A 70 t_parts) 71 t_sorts) L S))) (fun K => rfl) ?_
  rcases xb_if h with ⟨hc1183, h⟩ | ⟨hc1183, h⟩
  · refine xe_pos hc1183 (xe_k ?_)
    refine xe_seg ok 4 (G := (fun K => if xr_in (((8 : Int32)) * a1) 960 = true then K (80, xm_i80, xm_I80, 0, 0, 21, [(0, .ref 59), (1, .int a1), (2, .int (((8 : Int32)) * a1))], [.int (t_sorts (((8 : Int32)) * a1).toNatClampNeg)], xw_W (xy_a (xy_a A 70 t_parts) 71 t_sorts) L S) else none)) (fun K => rfl) ?_
    obtain ⟨hg1184, h⟩ := xn_if h
    refine xe_pos hg1184 (xe_k ?_)
    refine xe_seg ok 1 (G := (fun K => if (t_sorts (((8 : Int32)) * a1).toNatClampNeg) = (0 : Int32) then K (80, xm_i80, xm_I80, 0, 0, 24, [(0, .ref 59), (1, .int a1), (2, .int (((8 : Int32)) * a1))], [], xw_W (xy_a (xy_a A 70 t_parts) 71 t_sorts) L S) else K (80, xm_i80, xm_I80, 0, 0, 75, [(0, .ref 59), (1, .int a1), (2, .int (((8 : Int32)) * a1))], [], xw_W (xy_a (xy_a A 70 t_parts) 71 t_sorts) L S))) (fun K => rfl) ?_
    rcases xb_if h with ⟨hc1185, h⟩ | ⟨hc1185, h⟩
    · refine xe_pos hc1185 (xe_k ?_)
      refine xe_seg ok 6 (G := (fun K => if xr_in ((((8 : Int32)) * a1) + ((1 : Int32))) 960 = true then K (80, xm_i80, xm_I80, 0, 0, 32, [(0, .ref 59), (1, .int a1), (2, .int (((8 : Int32)) * a1))], [.int (t_sorts ((((8 : Int32)) * a1) + ((1 : Int32))).toNatClampNeg)], xw_W (xy_a (xy_a A 70 t_parts) 71 t_sorts) L S) else none)) (fun K => rfl) ?_
      obtain ⟨hg1186, h⟩ := xn_if h
      refine xe_pos hg1186 (xe_k ?_)
      refine xe_seg ok 1 (G := (fun K => if (t_sorts ((((8 : Int32)) * a1) + ((1 : Int32))).toNatClampNeg) = (0 : Int32) then K (80, xm_i80, xm_I80, 0, 0, 35, [(0, .ref 59), (1, .int a1), (2, .int (((8 : Int32)) * a1))], [], xw_W (xy_a (xy_a A 70 t_parts) 71 t_sorts) L S) else K (80, xm_i80, xm_I80, 0, 0, 75, [(0, .ref 59), (1, .int a1), (2, .int (((8 : Int32)) * a1))], [], xw_W (xy_a (xy_a A 70 t_parts) 71 t_sorts) L S))) (fun K => rfl) ?_
      rcases xb_if h with ⟨hc1187, h⟩ | ⟨hc1187, h⟩
      · refine xe_pos hc1187 (xe_k ?_)
        refine xe_seg ok 6 (G := (fun K => if xr_in ((((8 : Int32)) * a1) + ((2 : Int32))) 960 = true then K (80, xm_i80, xm_I80, 0, 0, 43, [(0, .ref 59), (1, .int a1), (2, .int (((8 : Int32)) * a1))], [.int (t_sorts ((((8 : Int32)) * a1) + ((2 : Int32))).toNatClampNeg)], xw_W (xy_a (xy_a A 70 t_parts) 71 t_sorts) L S) else none)) (fun K => rfl) ?_
        obtain ⟨hg1188, h⟩ := xn_if h
        refine xe_pos hg1188 (xe_k ?_)
        refine xe_seg ok 1 (G := (fun K => if (t_sorts ((((8 : Int32)) * a1) + ((2 : Int32))).toNatClampNeg) = (0 : Int32) then K (80, xm_i80, xm_I80, 0, 0, 46, [(0, .ref 59), (1, .int a1), (2, .int (((8 : Int32)) * a1))], [], xw_W (xy_a (xy_a A 70 t_parts) 71 t_sorts) L S) else K (80, xm_i80, xm_I80, 0, 0, 75, [(0, .ref 59), (1, .int a1), (2, .int (((8 : Int32)) * a1))], [], xw_W (xy_a (xy_a A 70 t_parts) 71 t_sorts) L S))) (fun K => rfl) ?_
        rcases xb_if h with ⟨hc1189, h⟩ | ⟨hc1189, h⟩
        · refine xe_pos hc1189 (xe_k ?_)
          refine xe_seg ok 6 (G := (fun K => if xr_in ((((8 : Int32)) * a1) + ((3 : Int32))) 960 = true then K (80, xm_i80, xm_I80, 0, 0, 54, [(0, .ref 59), (1, .int a1), (2, .int (((8 : Int32)) * a1))], [.int (t_sorts ((((8 : Int32)) * a1) + ((3 : Int32))).toNatClampNeg)], xw_W (xy_a (xy_a A 70 t_parts) 71 t_sorts) L S) else none)) (fun K => rfl) ?_
          obtain ⟨hg1190, h⟩ := xn_if h
          refine xe_pos hg1190 (xe_k ?_)
          refine xe_seg ok 2 (G := (fun K => if (t_sorts ((((8 : Int32)) * a1) + ((3 : Int32))).toNatClampNeg) = ((2 : Int32)) then K (80, xm_i80, xm_I80, 0, 0, 71, [(0, .ref 59), (1, .int a1), (2, .int (((8 : Int32)) * a1))], [], xw_W (xy_a (xy_a A 70 t_parts) 71 t_sorts) L S) else K (80, xm_i80, xm_I80, 0, 0, 58, [(0, .ref 59), (1, .int a1), (2, .int (((8 : Int32)) * a1))], [], xw_W (xy_a (xy_a A 70 t_parts) 71 t_sorts) L S))) (fun K => rfl) ?_
          rcases xb_if h with ⟨hc1191, h⟩ | ⟨hc1191, h⟩
          · refine xe_pos hc1191 (xe_k ?_)
            refine xe_sub [false, false, false] (lv' := []) rfl ?_
            exact xh_rf_isPlaced_57_71 ok A L S t_parts t_sorts _ h
          · refine xe_neg hc1191 (xe_k ?_)
            refine xe_seg ok 6 (G := (fun K => if xr_in ((((8 : Int32)) * a1) + ((3 : Int32))) 960 = true then K (80, xm_i80, xm_I80, 0, 0, 66, [(0, .ref 59), (1, .int a1), (2, .int (((8 : Int32)) * a1))], [.int (t_sorts ((((8 : Int32)) * a1) + ((3 : Int32))).toNatClampNeg)], xw_W (xy_a (xy_a A 70 t_parts) 71 t_sorts) L S) else none)) (fun K => rfl) ?_
            obtain ⟨hg1193, h⟩ := xn_if h
            refine xe_pos hg1193 (xe_k ?_)
            refine xe_seg ok 2 (G := (fun K => if (t_sorts ((((8 : Int32)) * a1) + ((3 : Int32))).toNatClampNeg) = ((6 : Int32)) then K (80, xm_i80, xm_I80, 0, 0, 71, [(0, .ref 59), (1, .int a1), (2, .int (((8 : Int32)) * a1))], [], xw_W (xy_a (xy_a A 70 t_parts) 71 t_sorts) L S) else K (80, xm_i80, xm_I80, 0, 0, 75, [(0, .ref 59), (1, .int a1), (2, .int (((8 : Int32)) * a1))], [], xw_W (xy_a (xy_a A 70 t_parts) 71 t_sorts) L S))) (fun K => rfl) ?_
            rcases xb_if h with ⟨hc1194, h⟩ | ⟨hc1194, h⟩
            · refine xe_pos hc1194 (xe_k ?_)
              refine xe_sub [false, false, false] (lv' := []) rfl ?_
              exact xh_rf_isPlaced_57_71 ok A L S t_parts t_sorts _ h
            · refine xe_neg hc1194 (xe_k ?_)
              refine xe_sub [false, false, false] (lv' := []) rfl ?_
              exact xh_rf_isPlaced_57_75 ok A L S t_parts t_sorts _ h
        · refine xe_neg hc1189 (xe_k ?_)
          refine xe_sub [false, false, false] (lv' := []) rfl ?_
          exact xh_rf_isPlaced_57_75 ok A L S t_parts t_sorts _ h
      · refine xe_neg hc1187 (xe_k ?_)
        refine xe_sub [false, false, false] (lv' := []) rfl ?_
        exact xh_rf_isPlaced_57_75 ok A L S t_parts t_sorts _ h
    · refine xe_neg hc1185 (xe_k ?_)
      refine xe_sub [false, false, false] (lv' := []) rfl ?_
      exact xh_rf_isPlaced_57_75 ok A L S t_parts t_sorts _ h
  · refine xe_neg hc1183 (xe_k ?_)
    refine xe_sub [false, false, false] (lv' := []) rfl ?_
    exact xh_rf_isPlaced_57_75 ok A L S t_parts t_sorts _ h
theorem xh_rf_place_57_166 {l : Launch} {g : xr_G} (ok : xr_OK xm_P) (A : Nat → Nat → Int32) (L : Nat → Nat → Int64) (S : Nat → Nat → Int32) (t_lines : (Nat → Int32)) (t_numbers : (Nat → Int32)) (t_parts : (Nat → Int32)) (t_sorts : (Nat → Int32)) (t_values : (Nat → Int32)) {k68 : Int32 → Int32 → Int32 → Int64 → Int32 → Option (Int64 × Int32)} (hk68 : ∀ (t_thrown : Int32) (v2 : Int32) (v3 : Int32) (v4 : Int64) (v6 : Int32) (r : (Int64 × Int32)), k68 t_thrown v2 v3 v4 v6 = some r → xV xm_P l g (81, xm_i81, xm_I81, 0, 0, 68, [(0, .ref 59), (2, .int v2), (3, .int v3), (4, .long v4), (6, .int v6)], [], xw_W (xy_a (xy_a (xy_a (xy_a (xy_a A 66 t_lines) 67 t_numbers) 70 t_parts) 71 t_sorts) 72 t_values) L (xy_s S 57 0 t_thrown)) (.inl (some (.long r.1)), xw_W (xy_a (xy_a (xy_a (xy_a (xy_a A 66 t_lines) 67 t_numbers) 70 t_parts) 71 t_sorts) 72 t_values) L (xy_s S 57 0 r.2))) (n : Nat) : ∀ (t_thrown : Int32) (v2 : Int32) (v4 : Int64) (v6 : Int32) (s0 : Int32) (r : (Int64 × Int32)), xf_rf_place_166 t_lines t_numbers t_parts t_sorts t_values k68 n t_thrown v2 v4 v6 s0 = some r → xV xm_P l g (81, xm_i81, xm_I81, 0, 0, 166, [(0, .ref 59), (2, .int v2), (4, .long v4), (6, .int v6)], [.int s0], xw_W (xy_a (xy_a (xy_a (xy_a (xy_a A 66 t_lines) 67 t_numbers) 70 t_parts) 71 t_sorts) 72 t_values) L (xy_s S 57 0 t_thrown)) (.inl (some (.long r.1)), xw_W (xy_a (xy_a (xy_a (xy_a (xy_a A 66 t_lines) 67 t_numbers) 70 t_parts) 71 t_sorts) 72 t_values) L (xy_s S 57 0 r.2)) := by
  intro t_thrown v2 v4 v6 s0 r h
  unfold xf_rf_place_166 at h
  refine xe_seg ok 2 (G := (fun K => K (81, xm_i81, xm_I81, 0, 0, 68, [(0, .ref 59), (2, .int v2), (3, .int s0), (4, .long v4), (6, .int v6)], [], xw_W (xy_a (xy_a (xy_a (xy_a (xy_a A 66 t_lines) 67 t_numbers) 70 t_parts) 71 t_sorts) 72 t_values) L (xy_s S 57 0 t_thrown)))) (fun K => rfl) ?_
  refine xe_k ?_
  refine xe_sub [true, true, true, true, true] (lv' := [(0, .ref 59), (2, .int v2), (3, .int s0), (4, .long v4), (6, .int v6)]) rfl ?_
  exact hk68 t_thrown v2 s0 v4 v6 _ h
theorem xh_rf_place_57_165 {l : Launch} {g : xr_G} (ok : xr_OK xm_P) (A : Nat → Nat → Int32) (L : Nat → Nat → Int64) (S : Nat → Nat → Int32) (t_lines : (Nat → Int32)) (t_numbers : (Nat → Int32)) (t_parts : (Nat → Int32)) (t_sorts : (Nat → Int32)) (t_values : (Nat → Int32)) {k68 : Int32 → Int32 → Int32 → Int64 → Int32 → Option (Int64 × Int32)} (hk68 : ∀ (t_thrown : Int32) (v2 : Int32) (v3 : Int32) (v4 : Int64) (v6 : Int32) (r : (Int64 × Int32)), k68 t_thrown v2 v3 v4 v6 = some r → xV xm_P l g (81, xm_i81, xm_I81, 0, 0, 68, [(0, .ref 59), (2, .int v2), (3, .int v3), (4, .long v4), (6, .int v6)], [], xw_W (xy_a (xy_a (xy_a (xy_a (xy_a A 66 t_lines) 67 t_numbers) 70 t_parts) 71 t_sorts) 72 t_values) L (xy_s S 57 0 t_thrown)) (.inl (some (.long r.1)), xw_W (xy_a (xy_a (xy_a (xy_a (xy_a A 66 t_lines) 67 t_numbers) 70 t_parts) 71 t_sorts) 72 t_values) L (xy_s S 57 0 r.2))) (n : Nat) : ∀ (t_thrown : Int32) (v2 : Int32) (v4 : Int64) (v6 : Int32) (r : (Int64 × Int32)), xf_rf_place_165 t_lines t_numbers t_parts t_sorts t_values k68 n t_thrown v2 v4 v6 = some r → xV xm_P l g (81, xm_i81, xm_I81, 0, 0, 165, [(0, .ref 59), (2, .int v2), (4, .long v4), (6, .int v6)], [], xw_W (xy_a (xy_a (xy_a (xy_a (xy_a A 66 t_lines) 67 t_numbers) 70 t_parts) 71 t_sorts) 72 t_values) L (xy_s S 57 0 t_thrown)) (.inl (some (.long r.1)), xw_W (xy_a (xy_a (xy_a (xy_a (xy_a A 66 t_lines) 67 t_numbers) 70 t_parts) 71 t_sorts) 72 t_values) L (xy_s S 57 0 r.2)) := by
  intro t_thrown v2 v4 v6 r h
  unfold xf_rf_place_165 at h
  refine xe_seg ok 1 (G := (fun K => K (81, xm_i81, xm_I81, 0, 0, 166, [(0, .ref 59), (2, .int v2), (4, .long v4), (6, .int v6)], [.int ((-1 : Int32))], xw_W (xy_a (xy_a (xy_a (xy_a (xy_a A 66 t_lines) 67 t_numbers) 70 t_parts) 71 t_sorts) 72 t_values) L (xy_s S 57 0 t_thrown)))) (fun K => rfl) ?_
  refine xe_k ?_
  refine xe_sub [true, true, true, true] (lv' := [(0, .ref 59), (2, .int v2), (4, .long v4), (6, .int v6)]) rfl ?_
  exact xh_rf_place_57_166 ok A L S t_lines t_numbers t_parts t_sorts t_values hk68 n t_thrown v2 v4 v6 ((-1 : Int32)) _ h
theorem xh_rf_place_57_143 {l : Launch} {g : xr_G} (ok : xr_OK xm_P) (A : Nat → Nat → Int32) (L : Nat → Nat → Int64) (S : Nat → Nat → Int32) (t_lines : (Nat → Int32)) (t_numbers : (Nat → Int32)) (t_parts : (Nat → Int32)) (t_sorts : (Nat → Int32)) (t_values : (Nat → Int32)) {k68 : Int32 → Int32 → Int32 → Int64 → Int32 → Option (Int64 × Int32)} (hk68 : ∀ (t_thrown : Int32) (v2 : Int32) (v3 : Int32) (v4 : Int64) (v6 : Int32) (r : (Int64 × Int32)), k68 t_thrown v2 v3 v4 v6 = some r → xV xm_P l g (81, xm_i81, xm_I81, 0, 0, 68, [(0, .ref 59), (2, .int v2), (3, .int v3), (4, .long v4), (6, .int v6)], [], xw_W (xy_a (xy_a (xy_a (xy_a (xy_a A 66 t_lines) 67 t_numbers) 70 t_parts) 71 t_sorts) 72 t_values) L (xy_s S 57 0 t_thrown)) (.inl (some (.long r.1)), xw_W (xy_a (xy_a (xy_a (xy_a (xy_a A 66 t_lines) 67 t_numbers) 70 t_parts) 71 t_sorts) 72 t_values) L (xy_s S 57 0 r.2))) (n : Nat) : ∀ (t_thrown : Int32) (v2 : Int32) (v4 : Int64) (v6 : Int32) (s0 : Int32) (r : (Int64 × Int32)), xf_rf_place_143 t_lines t_numbers t_parts t_sorts t_values k68 n t_thrown v2 v4 v6 s0 = some r → xV xm_P l g (81, xm_i81, xm_I81, 0, 0, 143, [(0, .ref 59), (2, .int v2), (4, .long v4), (6, .int v6)], [.int s0], xw_W (xy_a (xy_a (xy_a (xy_a (xy_a A 66 t_lines) 67 t_numbers) 70 t_parts) 71 t_sorts) 72 t_values) L (xy_s S 57 0 t_thrown)) (.inl (some (.long r.1)), xw_W (xy_a (xy_a (xy_a (xy_a (xy_a A 66 t_lines) 67 t_numbers) 70 t_parts) 71 t_sorts) 72 t_values) L (xy_s S 57 0 r.2)) := by
  intro t_thrown v2 v4 v6 s0 r h
  unfold xf_rf_place_143 at h
  refine xe_seg ok 4 (G := (fun K => if s0 = ((-1 : Int32)) then K (81, xm_i81, xm_I81, 0, 0, 165, [(0, .ref 59), (2, .int v2), (4, .long v4), (6, .int v6), (7, .int s0)], [], xw_W (xy_a (xy_a (xy_a (xy_a (xy_a A 66 t_lines) 67 t_numbers) 70 t_parts) 71 t_sorts) 72 t_values) L (xy_s S 57 0 t_thrown)) else K (81, xm_i81, xm_I81, 0, 0, 151, [(0, .ref 59), (2, .int v2), (4, .long v4), (6, .int v6), (7, .int s0)], [], xw_W (xy_a (xy_a (xy_a (xy_a (xy_a A 66 t_lines) 67 t_numbers) 70 t_parts) 71 t_sorts) 72 t_values) L (xy_s S 57 0 t_thrown)))) (fun K => rfl) ?_
  rcases xb_if h with ⟨hc1207, h⟩ | ⟨hc1207, h⟩
  · refine xe_pos hc1207 (xe_k ?_)
    refine xe_sub [true, true, true, true, false] (lv' := [(0, .ref 59), (2, .int v2), (4, .long v4), (6, .int v6)]) rfl ?_
    exact xh_rf_place_57_165 ok A L S t_lines t_numbers t_parts t_sorts t_values hk68 n t_thrown v2 v4 v6 _ h
  · refine xe_neg hc1207 (xe_k ?_)
    refine xe_seg ok 3 (G := (fun K => xr_back K 81 xm_i81 xm_I81 0 0 154 [(0, .ref 59), (2, .int v2), (4, .long v4), (6, .int v6), (7, .int s0)] [] 78 true (K (80, xm_i80, xm_I80, 0, 0, 0, [(0, .ref 59), (1, .int s0)], [], xw_W (xy_a (xy_a (xy_a (xy_a (xy_a A 66 t_lines) 67 t_numbers) 70 t_parts) 71 t_sorts) 72 t_values) L (xy_s S 57 0 t_thrown))))) (fun K => rfl) ?_
    obtain ⟨q1208, hq1208, h⟩ := Option.bind_eq_some_iff.mp h
    have heq1208 := xh_rf_isPlaced_57 (l := l) (g := g) ok (xy_a (xy_a (xy_a (xy_a (xy_a A 66 t_lines) 67 t_numbers) 70 t_parts) 71 t_sorts) 72 t_values) L (xy_s S 57 0 t_thrown) t_parts t_sorts s0 _ hq1208
    refine xe_call1 (ws' := xw_W (xy_a (xy_a (xy_a (xy_a (xy_a A 66 t_lines) 67 t_numbers) 70 t_parts) 71 t_sorts) 72 t_values) L (xy_s S 57 0 t_thrown)) (by decide) heq1208 (Or.inl rfl) ?_
    refine xe_seg ok 1 (G := (fun K => if q1208 = (0 : Int32) then K (81, xm_i81, xm_I81, 0, 0, 165, [(0, .ref 59), (2, .int v2), (4, .long v4), (6, .int v6), (7, .int s0)], [], xw_W (xy_a (xy_a (xy_a (xy_a (xy_a A 66 t_lines) 67 t_numbers) 70 t_parts) 71 t_sorts) 72 t_values) L (xy_s S 57 0 t_thrown)) else K (81, xm_i81, xm_I81, 0, 0, 160, [(0, .ref 59), (2, .int v2), (4, .long v4), (6, .int v6), (7, .int s0)], [], xw_W (xy_a (xy_a (xy_a (xy_a (xy_a A 66 t_lines) 67 t_numbers) 70 t_parts) 71 t_sorts) 72 t_values) L (xy_s S 57 0 t_thrown)))) (fun K => rfl) ?_
    rcases xb_if h with ⟨hc1209, h⟩ | ⟨hc1209, h⟩
    · refine xe_pos hc1209 (xe_k ?_)
      refine xe_sub [true, true, true, true, false] (lv' := [(0, .ref 59), (2, .int v2), (4, .long v4), (6, .int v6)]) rfl ?_
      exact xh_rf_place_57_165 ok A L S t_lines t_numbers t_parts t_sorts t_values hk68 n t_thrown v2 v4 v6 _ h
    · refine xe_neg hc1209 (xe_k ?_)
      refine xe_seg ok 2 (G := (fun K => K (81, xm_i81, xm_I81, 0, 0, 166, [(0, .ref 59), (2, .int v2), (4, .long v4), (6, .int v6), (7, .int s0)], [.int s0], xw_W (xy_a (xy_a (xy_a (xy_a (xy_a A 66 t_lines) 67 t_numbers) 70 t_parts) 71 t_sorts) 72 t_values) L (xy_s S 57 0 t_thrown)))) (fun K => rfl) ?_
      refine xe_k ?_
      refine xe_sub [true, true, true, true, false] (lv' := [(0, .ref 59), (2, .int v2), (4, .long v4), (6, .int v6)]) rfl ?_
      exact xh_rf_place_57_166 ok A L S t_lines t_numbers t_parts t_sorts t_values hk68 n t_thrown v2 v4 v6 s0 _ h
theorem xh_rf_place_57_68 {l : Launch} {g : xr_G} (ok : xr_OK xm_P) (A : Nat → Nat → Int32) (L : Nat → Nat → Int64) (S : Nat → Nat → Int32) (t_lines : (Nat → Int32)) (t_numbers : (Nat → Int32)) (t_parts : (Nat → Int32)) (t_sorts : (Nat → Int32)) (t_values : (Nat → Int32)) (n : Nat) : ∀ (N : Nat) (t_thrown : Int32) (v2 : Int32) (v3 : Int32) (v4 : Int64) (v6 : Int32) (r : (Int64 × Int32)), xf_rf_place_68 t_lines t_numbers t_parts t_sorts t_values n N t_thrown v2 v3 v4 v6 = some r → xV xm_P l g (81, xm_i81, xm_I81, 0, 0, 68, [(0, .ref 59), (2, .int v2), (3, .int v3), (4, .long v4), (6, .int v6)], [], xw_W (xy_a (xy_a (xy_a (xy_a (xy_a A 66 t_lines) 67 t_numbers) 70 t_parts) 71 t_sorts) 72 t_values) L (xy_s S 57 0 t_thrown)) (.inl (some (.long r.1)), xw_W (xy_a (xy_a (xy_a (xy_a (xy_a A 66 t_lines) 67 t_numbers) 70 t_parts) 71 t_sorts) 72 t_values) L (xy_s S 57 0 r.2)) := by
  intro N
  induction N with
  | zero => intro t_thrown v2 v3 v4 v6 r h; cases h
  | succ N hk68 =>
    intro t_thrown v2 v3 v4 v6 r h
    refine xe_seg ok 3 (G := (fun K => if v3 = ((-1 : Int32)) then K (81, xm_i81, xm_I81, 0, 0, 170, [(0, .ref 59), (2, .int v2), (3, .int v3), (4, .long v4), (6, .int v6)], [], xw_W (xy_a (xy_a (xy_a (xy_a (xy_a A 66 t_lines) 67 t_numbers) 70 t_parts) 71 t_sorts) 72 t_values) L (xy_s S 57 0 t_thrown)) else K (81, xm_i81, xm_I81, 0, 0, 73, [(0, .ref 59), (2, .int v2), (3, .int v3), (4, .long v4), (6, .int v6)], [], xw_W (xy_a (xy_a (xy_a (xy_a (xy_a A 66 t_lines) 67 t_numbers) 70 t_parts) 71 t_sorts) 72 t_values) L (xy_s S 57 0 t_thrown)))) (fun K => rfl) ?_
    rcases xb_if h with ⟨hc1199, h⟩ | ⟨hc1199, h⟩
    · refine xe_pos hc1199 (xe_k ?_)
      obtain rfl := Option.some.inj h
      refine xe_seg ok 2 (G := (fun _ => some (.inl (some (.long v4)), xw_W (xy_a (xy_a (xy_a (xy_a (xy_a A 66 t_lines) 67 t_numbers) 70 t_parts) 71 t_sorts) 72 t_values) L (xy_s S 57 0 t_thrown)))) (fun K => rfl) ?_
      exact xe_ret
    · refine xe_neg hc1199 (xe_k ?_)
      refine xe_seg ok 5 (G := (fun K => if xr_in ((0 : Int32)) 3 = true then K (81, xm_i81, xm_I81, 0, 0, 81, [(0, .ref 59), (2, .int v2), (3, .int v3), (4, .long v4), (6, .int v6)], [.int (t_lines ((0 : Int32)).toNatClampNeg), .int v6], xw_W (xy_a (xy_a (xy_a (xy_a (xy_a A 66 t_lines) 67 t_numbers) 70 t_parts) 71 t_sorts) 72 t_values) L (xy_s S 57 0 t_thrown)) else none)) (fun K => rfl) ?_
      obtain ⟨hg1200, h⟩ := xn_if h
      refine xe_pos hg1200 (xe_k ?_)
      refine xe_seg ok 1 (G := (fun K => if (t_lines ((0 : Int32)).toNatClampNeg) < v6 then K (81, xm_i81, xm_I81, 0, 0, 84, [(0, .ref 59), (2, .int v2), (3, .int v3), (4, .long v4), (6, .int v6)], [], xw_W (xy_a (xy_a (xy_a (xy_a (xy_a A 66 t_lines) 67 t_numbers) 70 t_parts) 71 t_sorts) 72 t_values) L (xy_s S 57 0 t_thrown)) else K (81, xm_i81, xm_I81, 0, 0, 88, [(0, .ref 59), (2, .int v2), (3, .int v3), (4, .long v4), (6, .int v6)], [], xw_W (xy_a (xy_a (xy_a (xy_a (xy_a A 66 t_lines) 67 t_numbers) 70 t_parts) 71 t_sorts) 72 t_values) L (xy_s S 57 0 t_thrown)))) (fun K => rfl) ?_
      rcases xb_if h with ⟨hc1201, h⟩ | ⟨hc1201, h⟩
      · refine xe_pos hc1201 (xe_k ?_)
        obtain rfl := Option.some.inj h
        refine xe_seg ok 2 (G := (fun _ => some (.inl (some (.long ((1000000000000 : Int64)))), xw_W (xy_a (xy_a (xy_a (xy_a (xy_a A 66 t_lines) 67 t_numbers) 70 t_parts) 71 t_sorts) 72 t_values) L (xy_s S 57 0 t_thrown)))) (fun K => rfl) ?_
        exact xe_ret
      · refine xe_neg hc1201 (xe_k ?_)
        refine xe_seg ok 10 (G := (fun K => if xr_in ((((8 : Int32)) * v3) + v2) 960 = true then K (81, xm_i81, xm_I81, 0, 0, 104, [(0, .ref 59), (2, .int v2), (3, .int v3), (4, .long v4), (6, .int (v6 + (1 : Int32)))], [.int (t_values ((((8 : Int32)) * v3) + v2).toNatClampNeg), .long v4], xw_W (xy_a (xy_a (xy_a (xy_a (xy_a A 66 t_lines) 67 t_numbers) 70 t_parts) 71 t_sorts) 72 t_values) L (xy_s S 57 0 t_thrown)) else none)) (fun K => rfl) ?_
        obtain ⟨hg1202, h⟩ := xn_if h
        refine xe_pos hg1202 (xe_k ?_)
        refine xe_seg ok 11 (G := (fun K => if xr_in ((((8 : Int32)) * v3) + ((3 : Int32))) 960 = true then K (81, xm_i81, xm_I81, 0, 0, 119, [(0, .ref 59), (2, .int v2), (3, .int v3), (4, .long (v4 + ((t_values ((((8 : Int32)) * v3) + v2).toNatClampNeg).toInt64))), (6, .int (v6 + (1 : Int32)))], [.int (t_sorts ((((8 : Int32)) * v3) + ((3 : Int32))).toNatClampNeg)], xw_W (xy_a (xy_a (xy_a (xy_a (xy_a A 66 t_lines) 67 t_numbers) 70 t_parts) 71 t_sorts) 72 t_values) L (xy_s S 57 0 t_thrown)) else none)) (fun K => rfl) ?_
        obtain ⟨hg1203, h⟩ := xn_if h
        refine xe_pos hg1203 (xe_k ?_)
        refine xe_seg ok 2 (G := (fun K => if (t_sorts ((((8 : Int32)) * v3) + ((3 : Int32))).toNatClampNeg) = ((2 : Int32)) then K (81, xm_i81, xm_I81, 0, 0, 123, [(0, .ref 59), (2, .int v2), (3, .int v3), (4, .long (v4 + ((t_values ((((8 : Int32)) * v3) + v2).toNatClampNeg).toInt64))), (6, .int (v6 + (1 : Int32)))], [], xw_W (xy_a (xy_a (xy_a (xy_a (xy_a A 66 t_lines) 67 t_numbers) 70 t_parts) 71 t_sorts) 72 t_values) L (xy_s S 57 0 t_thrown)) else K (81, xm_i81, xm_I81, 0, 0, 142, [(0, .ref 59), (2, .int v2), (3, .int v3), (4, .long (v4 + ((t_values ((((8 : Int32)) * v3) + v2).toNatClampNeg).toInt64))), (6, .int (v6 + (1 : Int32)))], [], xw_W (xy_a (xy_a (xy_a (xy_a (xy_a A 66 t_lines) 67 t_numbers) 70 t_parts) 71 t_sorts) 72 t_values) L (xy_s S 57 0 t_thrown)))) (fun K => rfl) ?_
        rcases xb_if h with ⟨hc1204, h⟩ | ⟨hc1204, h⟩
        · refine xe_pos hc1204 (xe_k ?_)
          refine xe_seg ok 10 (G := (fun K => if xr_in ((((8 : Int32)) * v3) + ((3 : Int32))) 960 = true then K (81, xm_i81, xm_I81, 0, 0, 136, [(0, .ref 59), (2, .int v2), (3, .int v3), (4, .long (v4 + ((t_values ((((8 : Int32)) * v3) + v2).toNatClampNeg).toInt64))), (6, .int (v6 + (1 : Int32)))], [.int (t_values ((((8 : Int32)) * v3) + ((3 : Int32))).toNatClampNeg), .int ((0 : Int32)), .ref 59], xw_W (xy_a (xy_a (xy_a (xy_a (xy_a A 66 t_lines) 67 t_numbers) 70 t_parts) 71 t_sorts) 72 t_values) L (xy_s S 57 0 t_thrown)) else none)) (fun K => rfl) ?_
          obtain ⟨hg1205, h⟩ := xn_if h
          refine xe_pos hg1205 (xe_k ?_)
          refine xe_seg ok 1 (G := (fun K => xr_back K 81 xm_i81 xm_I81 0 0 136 [(0, .ref 59), (2, .int v2), (3, .int v3), (4, .long (v4 + ((t_values ((((8 : Int32)) * v3) + v2).toNatClampNeg).toInt64))), (6, .int (v6 + (1 : Int32)))] [] 78 true (K (50, xm_i50, xm_I50, 0, 0, 0, [(0, .ref 59), (1, .int ((0 : Int32))), (2, .int (t_values ((((8 : Int32)) * v3) + ((3 : Int32))).toNatClampNeg))], [], xw_W (xy_a (xy_a (xy_a (xy_a (xy_a A 66 t_lines) 67 t_numbers) 70 t_parts) 71 t_sorts) 72 t_values) L (xy_s S 57 0 t_thrown))))) (fun K => rfl) ?_
          obtain ⟨q1206, hq1206, h⟩ := Option.bind_eq_some_iff.mp h
          have heq1206 := xh_rf_find_57 (l := l) (g := g) ok (xy_a (xy_a (xy_a (xy_a (xy_a A 66 t_lines) 67 t_numbers) 70 t_parts) 71 t_sorts) 72 t_values) L (xy_s S 57 0 t_thrown) t_lines t_numbers n ((0 : Int32)) (t_values ((((8 : Int32)) * v3) + ((3 : Int32))).toNatClampNeg) _ hq1206
          refine xe_call1 (ws' := xw_W (xy_a (xy_a (xy_a (xy_a (xy_a A 66 t_lines) 67 t_numbers) 70 t_parts) 71 t_sorts) 72 t_values) L (xy_s S 57 0 t_thrown)) (by decide) heq1206 (Or.inl rfl) ?_
          refine xe_seg ok 1 (G := (fun K => K (81, xm_i81, xm_I81, 0, 0, 143, [(0, .ref 59), (2, .int v2), (3, .int v3), (4, .long (v4 + ((t_values ((((8 : Int32)) * v3) + v2).toNatClampNeg).toInt64))), (6, .int (v6 + (1 : Int32)))], [.int q1206], xw_W (xy_a (xy_a (xy_a (xy_a (xy_a A 66 t_lines) 67 t_numbers) 70 t_parts) 71 t_sorts) 72 t_values) L (xy_s S 57 0 t_thrown)))) (fun K => rfl) ?_
          refine xe_k ?_
          refine xe_sub [true, true, false, true, true] (lv' := [(0, .ref 59), (2, .int v2), (4, .long (v4 + ((t_values ((((8 : Int32)) * v3) + v2).toNatClampNeg).toInt64))), (6, .int (v6 + (1 : Int32)))]) rfl ?_
          exact xh_rf_place_57_143 ok A L S t_lines t_numbers t_parts t_sorts t_values hk68 n t_thrown v2 (v4 + ((t_values ((((8 : Int32)) * v3) + v2).toNatClampNeg).toInt64)) (v6 + (1 : Int32)) q1206 _ h
        · refine xe_neg hc1204 (xe_k ?_)
          refine xe_seg ok 1 (G := (fun K => K (81, xm_i81, xm_I81, 0, 0, 143, [(0, .ref 59), (2, .int v2), (3, .int v3), (4, .long (v4 + ((t_values ((((8 : Int32)) * v3) + v2).toNatClampNeg).toInt64))), (6, .int (v6 + (1 : Int32)))], [.int ((-1 : Int32))], xw_W (xy_a (xy_a (xy_a (xy_a (xy_a A 66 t_lines) 67 t_numbers) 70 t_parts) 71 t_sorts) 72 t_values) L (xy_s S 57 0 t_thrown)))) (fun K => rfl) ?_
          refine xe_k ?_
          refine xe_sub [true, true, false, true, true] (lv' := [(0, .ref 59), (2, .int v2), (4, .long (v4 + ((t_values ((((8 : Int32)) * v3) + v2).toNatClampNeg).toInt64))), (6, .int (v6 + (1 : Int32)))]) rfl ?_
          exact xh_rf_place_57_143 ok A L S t_lines t_numbers t_parts t_sorts t_values hk68 n t_thrown v2 (v4 + ((t_values ((((8 : Int32)) * v3) + v2).toNatClampNeg).toInt64)) (v6 + (1 : Int32)) ((-1 : Int32)) _ h
theorem xh_rf_place_57_60 {l : Launch} {g : xr_G} (ok : xr_OK xm_P) (A : Nat → Nat → Int32) (L : Nat → Nat → Int64) (S : Nat → Nat → Int32) (t_lines : (Nat → Int32)) (t_numbers : (Nat → Int32)) (t_parts : (Nat → Int32)) (t_sorts : (Nat → Int32)) (t_values : (Nat → Int32)) (n : Nat) : ∀ (t_thrown : Int32) (r : (Int64 × Int32)), xf_rf_place_60 t_lines t_numbers t_parts t_sorts t_values n t_thrown = some r → xV xm_P l g (81, xm_i81, xm_I81, 0, 0, 60, [], [], xw_W (xy_a (xy_a (xy_a (xy_a (xy_a A 66 t_lines) 67 t_numbers) 70 t_parts) 71 t_sorts) 72 t_values) L (xy_s S 57 0 t_thrown)) (.inl (some (.long r.1)), xw_W (xy_a (xy_a (xy_a (xy_a (xy_a A 66 t_lines) 67 t_numbers) 70 t_parts) 71 t_sorts) 72 t_values) L (xy_s S 57 0 r.2)) := by
  intro t_thrown r h
  unfold xf_rf_place_60 at h
  obtain rfl := Option.some.inj h
  refine xe_seg ok 2 (G := (fun _ => some (.inl (some (.long ((0 : Int64)))), xw_W (xy_a (xy_a (xy_a (xy_a (xy_a A 66 t_lines) 67 t_numbers) 70 t_parts) 71 t_sorts) 72 t_values) L (xy_s S 57 0 t_thrown)))) (fun K => rfl) ?_
  exact xe_ret
theorem xh_rf_place_57_53 {l : Launch} {g : xr_G} (ok : xr_OK xm_P) (A : Nat → Nat → Int32) (L : Nat → Nat → Int64) (S : Nat → Nat → Int32) (t_lines : (Nat → Int32)) (t_numbers : (Nat → Int32)) (t_parts : (Nat → Int32)) (t_sorts : (Nat → Int32)) (t_values : (Nat → Int32)) (n : Nat) : ∀ (t_thrown : Int32) (v2 : Int32) (v3 : Int32) (s1 : Int32) (r : (Int64 × Int32)), xf_rf_place_53 t_lines t_numbers t_parts t_sorts t_values n t_thrown v2 v3 s1 = some r → xV xm_P l g (81, xm_i81, xm_I81, 0, 0, 53, [(0, .ref 59), (2, .int v2), (3, .int v3)], [.int s1, .ref 59], xw_W (xy_a (xy_a (xy_a (xy_a (xy_a A 66 t_lines) 67 t_numbers) 70 t_parts) 71 t_sorts) 72 t_values) L (xy_s S 57 0 t_thrown)) (.inl (some (.long r.1)), xw_W (xy_a (xy_a (xy_a (xy_a (xy_a A 66 t_lines) 67 t_numbers) 70 t_parts) 71 t_sorts) 72 t_values) L (xy_s S 57 0 r.2)) := by
  intro t_thrown v2 v3 s1 r h
  unfold xf_rf_place_53 at h
  refine xe_seg ok 2 (G := (fun K => xr_back K 81 xm_i81 xm_I81 0 0 54 [(0, .ref 59), (2, .int v2), (3, .int v3)] [] 78 true (K (32, xm_i32, xm_I32, 0, 0, 0, [(0, .ref 59), (1, .int s1), (2, .int ((1 : Int32)))], [], xw_W (xy_a (xy_a (xy_a (xy_a (xy_a A 66 t_lines) 67 t_numbers) 70 t_parts) 71 t_sorts) 72 t_values) L (xy_s S 57 0 t_thrown))))) (fun K => rfl) ?_
  obtain ⟨q1197, hq1197, h⟩ := Option.bind_eq_some_iff.mp h
  have heq1197 := xh_rf_fails_57 (l := l) (g := g) ok (xy_a (xy_a (xy_a (xy_a (xy_a A 66 t_lines) 67 t_numbers) 70 t_parts) 71 t_sorts) 72 t_values) L (xy_s S 57 0 t_thrown) t_thrown s1 ((1 : Int32)) _ hq1197
  refine xe_call1 (ws' := xw_W (xy_a (xy_a (xy_a (xy_a (xy_a A 66 t_lines) 67 t_numbers) 70 t_parts) 71 t_sorts) 72 t_values) L (xy_s S 57 0 q1197.2)) (by decide) heq1197 (Or.inl rfl) ?_
  refine xe_seg ok 1 (G := (fun K => if q1197.1 = (0 : Int32) then K (81, xm_i81, xm_I81, 0, 0, 62, [(0, .ref 59), (2, .int v2), (3, .int v3)], [], xw_W (xy_a (xy_a (xy_a (xy_a (xy_a A 66 t_lines) 67 t_numbers) 70 t_parts) 71 t_sorts) 72 t_values) L (xy_s S 57 0 q1197.2)) else K (81, xm_i81, xm_I81, 0, 0, 60, [(0, .ref 59), (2, .int v2), (3, .int v3)], [], xw_W (xy_a (xy_a (xy_a (xy_a (xy_a A 66 t_lines) 67 t_numbers) 70 t_parts) 71 t_sorts) 72 t_values) L (xy_s S 57 0 q1197.2)))) (fun K => rfl) ?_
  rcases xb_if h with ⟨hc1198, h⟩ | ⟨hc1198, h⟩
  · refine xe_pos hc1198 (xe_k ?_)
    refine xe_seg ok 4 (G := (fun K => K (81, xm_i81, xm_I81, 0, 0, 68, [(0, .ref 59), (2, .int v2), (3, .int v3), (4, .long ((0 : Int64))), (6, .int ((0 : Int32)))], [], xw_W (xy_a (xy_a (xy_a (xy_a (xy_a A 66 t_lines) 67 t_numbers) 70 t_parts) 71 t_sorts) 72 t_values) L (xy_s S 57 0 q1197.2)))) (fun K => rfl) ?_
    refine xe_k ?_
    refine xe_sub [true, true, true, true, true] (lv' := [(0, .ref 59), (2, .int v2), (3, .int v3), (4, .long ((0 : Int64))), (6, .int ((0 : Int32)))]) rfl ?_
    exact xh_rf_place_57_68 ok A L S t_lines t_numbers t_parts t_sorts t_values n n q1197.2 v2 v3 ((0 : Int64)) ((0 : Int32)) _ h
  · refine xe_neg hc1198 (xe_k ?_)
    refine xe_sub [false, false, false] (lv' := []) rfl ?_
    exact xh_rf_place_57_60 ok A L S t_lines t_numbers t_parts t_sorts t_values n q1197.2 _ h
theorem xh_rf_place_57_32 {l : Launch} {g : xr_G} (ok : xr_OK xm_P) (A : Nat → Nat → Int32) (L : Nat → Nat → Int64) (S : Nat → Nat → Int32) (t_lines : (Nat → Int32)) (t_numbers : (Nat → Int32)) (t_parts : (Nat → Int32)) (t_sorts : (Nat → Int32)) (t_values : (Nat → Int32)) (n : Nat) : ∀ (t_thrown : Int32) (v2 : Int32) (v3 : Int32) (s1 : Int32) (r : (Int64 × Int32)), xf_rf_place_32 t_lines t_numbers t_parts t_sorts t_values n t_thrown v2 v3 s1 = some r → xV xm_P l g (81, xm_i81, xm_I81, 0, 0, 32, [(0, .ref 59), (2, .int v2), (3, .int v3)], [.int s1, .ref 59], xw_W (xy_a (xy_a (xy_a (xy_a (xy_a A 66 t_lines) 67 t_numbers) 70 t_parts) 71 t_sorts) 72 t_values) L (xy_s S 57 0 t_thrown)) (.inl (some (.long r.1)), xw_W (xy_a (xy_a (xy_a (xy_a (xy_a A 66 t_lines) 67 t_numbers) 70 t_parts) 71 t_sorts) 72 t_values) L (xy_s S 57 0 r.2)) := by
  intro t_thrown v2 v3 s1 r h
  unfold xf_rf_place_32 at h
  refine xe_seg ok 2 (G := (fun K => xr_back K 81 xm_i81 xm_I81 0 0 33 [(0, .ref 59), (2, .int v2), (3, .int v3)] [] 78 true (K (32, xm_i32, xm_I32, 0, 0, 0, [(0, .ref 59), (1, .int s1), (2, .int ((1 : Int32)))], [], xw_W (xy_a (xy_a (xy_a (xy_a (xy_a A 66 t_lines) 67 t_numbers) 70 t_parts) 71 t_sorts) 72 t_values) L (xy_s S 57 0 t_thrown))))) (fun K => rfl) ?_
  obtain ⟨q1180, hq1180, h⟩ := Option.bind_eq_some_iff.mp h
  have heq1180 := xh_rf_fails_57 (l := l) (g := g) ok (xy_a (xy_a (xy_a (xy_a (xy_a A 66 t_lines) 67 t_numbers) 70 t_parts) 71 t_sorts) 72 t_values) L (xy_s S 57 0 t_thrown) t_thrown s1 ((1 : Int32)) _ hq1180
  refine xe_call1 (ws' := xw_W (xy_a (xy_a (xy_a (xy_a (xy_a A 66 t_lines) 67 t_numbers) 70 t_parts) 71 t_sorts) 72 t_values) L (xy_s S 57 0 q1180.2)) (by decide) heq1180 (Or.inl rfl) ?_
  refine xe_seg ok 1 (G := (fun K => if q1180.1 = (0 : Int32) then K (81, xm_i81, xm_I81, 0, 0, 39, [(0, .ref 59), (2, .int v2), (3, .int v3)], [], xw_W (xy_a (xy_a (xy_a (xy_a (xy_a A 66 t_lines) 67 t_numbers) 70 t_parts) 71 t_sorts) 72 t_values) L (xy_s S 57 0 q1180.2)) else K (81, xm_i81, xm_I81, 0, 0, 60, [(0, .ref 59), (2, .int v2), (3, .int v3)], [], xw_W (xy_a (xy_a (xy_a (xy_a (xy_a A 66 t_lines) 67 t_numbers) 70 t_parts) 71 t_sorts) 72 t_values) L (xy_s S 57 0 q1180.2)))) (fun K => rfl) ?_
  rcases xb_if h with ⟨hc1181, h⟩ | ⟨hc1181, h⟩
  · refine xe_pos hc1181 (xe_k ?_)
    refine xe_seg ok 4 (G := (fun K => xr_back K 81 xm_i81 xm_I81 0 0 42 [(0, .ref 59), (2, .int v2), (3, .int v3)] [.ref 59] 78 true (K (80, xm_i80, xm_I80, 0, 0, 0, [(0, .ref 59), (1, .int v3)], [], xw_W (xy_a (xy_a (xy_a (xy_a (xy_a A 66 t_lines) 67 t_numbers) 70 t_parts) 71 t_sorts) 72 t_values) L (xy_s S 57 0 q1180.2))))) (fun K => rfl) ?_
    obtain ⟨q1195, hq1195, h⟩ := Option.bind_eq_some_iff.mp h
    have heq1195 := xh_rf_isPlaced_57 (l := l) (g := g) ok (xy_a (xy_a (xy_a (xy_a (xy_a A 66 t_lines) 67 t_numbers) 70 t_parts) 71 t_sorts) 72 t_values) L (xy_s S 57 0 q1180.2) t_parts t_sorts v3 _ hq1195
    refine xe_call1 (ws' := xw_W (xy_a (xy_a (xy_a (xy_a (xy_a A 66 t_lines) 67 t_numbers) 70 t_parts) 71 t_sorts) 72 t_values) L (xy_s S 57 0 q1180.2)) (by decide) heq1195 (Or.inl rfl) ?_
    refine xe_seg ok 1 (G := (fun K => if q1195 = (0 : Int32) then K (81, xm_i81, xm_I81, 0, 0, 48, [(0, .ref 59), (2, .int v2), (3, .int v3)], [.ref 59], xw_W (xy_a (xy_a (xy_a (xy_a (xy_a A 66 t_lines) 67 t_numbers) 70 t_parts) 71 t_sorts) 72 t_values) L (xy_s S 57 0 q1180.2)) else K (81, xm_i81, xm_I81, 0, 0, 52, [(0, .ref 59), (2, .int v2), (3, .int v3)], [.ref 59], xw_W (xy_a (xy_a (xy_a (xy_a (xy_a A 66 t_lines) 67 t_numbers) 70 t_parts) 71 t_sorts) 72 t_values) L (xy_s S 57 0 q1180.2)))) (fun K => rfl) ?_
    rcases xb_if h with ⟨hc1196, h⟩ | ⟨hc1196, h⟩
    · refine xe_pos hc1196 (xe_k ?_)
      refine xe_seg ok 2 (G := (fun K => K (81, xm_i81, xm_I81, 0, 0, 53, [(0, .ref 59), (2, .int v2), (3, .int v3)], [.int ((1 : Int32)), .ref 59], xw_W (xy_a (xy_a (xy_a (xy_a (xy_a A 66 t_lines) 67 t_numbers) 70 t_parts) 71 t_sorts) 72 t_values) L (xy_s S 57 0 q1180.2)))) (fun K => rfl) ?_
      refine xe_k ?_
      refine xe_sub [true, true, true] (lv' := [(0, .ref 59), (2, .int v2), (3, .int v3)]) rfl ?_
      exact xh_rf_place_57_53 ok A L S t_lines t_numbers t_parts t_sorts t_values n q1180.2 v2 v3 ((1 : Int32)) _ h
    · refine xe_neg hc1196 (xe_k ?_)
      refine xe_seg ok 1 (G := (fun K => K (81, xm_i81, xm_I81, 0, 0, 53, [(0, .ref 59), (2, .int v2), (3, .int v3)], [.int ((0 : Int32)), .ref 59], xw_W (xy_a (xy_a (xy_a (xy_a (xy_a A 66 t_lines) 67 t_numbers) 70 t_parts) 71 t_sorts) 72 t_values) L (xy_s S 57 0 q1180.2)))) (fun K => rfl) ?_
      refine xe_k ?_
      refine xe_sub [true, true, true] (lv' := [(0, .ref 59), (2, .int v2), (3, .int v3)]) rfl ?_
      exact xh_rf_place_57_53 ok A L S t_lines t_numbers t_parts t_sorts t_values n q1180.2 v2 v3 ((0 : Int32)) _ h
  · refine xe_neg hc1181 (xe_k ?_)
    refine xe_sub [false, false, false] (lv' := []) rfl ?_
    exact xh_rf_place_57_60 ok A L S t_lines t_numbers t_parts t_sorts t_values n q1180.2 _ h
theorem xh_rf_place_57_27 {l : Launch} {g : xr_G} (ok : xr_OK xm_P) (A : Nat → Nat → Int32) (L : Nat → Nat → Int64) (S : Nat → Nat → Int32) (t_lines : (Nat → Int32)) (t_numbers : (Nat → Int32)) (t_parts : (Nat → Int32)) (t_sorts : (Nat → Int32)) (t_values : (Nat → Int32)) (n : Nat) : ∀ (t_thrown : Int32) (v2 : Int32) (v3 : Int32) (r : (Int64 × Int32)), xf_rf_place_27 t_lines t_numbers t_parts t_sorts t_values n t_thrown v2 v3 = some r → xV xm_P l g (81, xm_i81, xm_I81, 0, 0, 27, [(0, .ref 59), (2, .int v2), (3, .int v3)], [.ref 59], xw_W (xy_a (xy_a (xy_a (xy_a (xy_a A 66 t_lines) 67 t_numbers) 70 t_parts) 71 t_sorts) 72 t_values) L (xy_s S 57 0 t_thrown)) (.inl (some (.long r.1)), xw_W (xy_a (xy_a (xy_a (xy_a (xy_a A 66 t_lines) 67 t_numbers) 70 t_parts) 71 t_sorts) 72 t_values) L (xy_s S 57 0 r.2)) := by
  intro t_thrown v2 v3 r h
  unfold xf_rf_place_27 at h
  refine xe_seg ok 2 (G := (fun K => K (81, xm_i81, xm_I81, 0, 0, 32, [(0, .ref 59), (2, .int v2), (3, .int v3)], [.int ((1 : Int32)), .ref 59], xw_W (xy_a (xy_a (xy_a (xy_a (xy_a A 66 t_lines) 67 t_numbers) 70 t_parts) 71 t_sorts) 72 t_values) L (xy_s S 57 0 t_thrown)))) (fun K => rfl) ?_
  refine xe_k ?_
  refine xe_sub [true, true, true] (lv' := [(0, .ref 59), (2, .int v2), (3, .int v3)]) rfl ?_
  exact xh_rf_place_57_32 ok A L S t_lines t_numbers t_parts t_sorts t_values n t_thrown v2 v3 ((1 : Int32)) _ h
theorem xh_rf_place_57 {l : Launch} {g : xr_G} (ok : xr_OK xm_P) (A : Nat → Nat → Int32) (L : Nat → Nat → Int64) (S : Nat → Nat → Int32) (t_lines : (Nat → Int32)) (t_numbers : (Nat → Int32)) (t_parts : (Nat → Int32)) (t_sorts : (Nat → Int32)) (t_values : (Nat → Int32)) (n : Nat) : ∀ (t_thrown : Int32) (a1 : Int32) (a2 : Int32) (r : (Int64 × Int32)), xf_rf_place t_lines t_numbers t_parts t_sorts t_values n t_thrown a1 a2 = some r → xV xm_P l g (81, xm_i81, xm_I81, 0, 0, 0, [(0, .ref 59), (1, .int a1), (2, .int a2)], [], xw_W (xy_a (xy_a (xy_a (xy_a (xy_a A 66 t_lines) 67 t_numbers) 70 t_parts) 71 t_sorts) 72 t_values) L (xy_s S 57 0 t_thrown)) (.inl (some (.long r.1)), xw_W (xy_a (xy_a (xy_a (xy_a (xy_a A 66 t_lines) 67 t_numbers) 70 t_parts) 71 t_sorts) 72 t_values) L (xy_s S 57 0 r.2)) := by
  intro t_thrown a1 a2 r h
  unfold xf_rf_place at h
  refine xe_seg ok 7 (G := (fun K => xr_back K 81 xm_i81 xm_I81 0 0 8 [(0, .ref 59), (1, .int a1), (2, .int a2)] [] 78 true (K (50, xm_i50, xm_I50, 0, 0, 0, [(0, .ref 59), (1, .int ((0 : Int32))), (2, .int a1)], [], xw_W (xy_a (xy_a (xy_a (xy_a (xy_a A 66 t_lines) 67 t_numbers) 70 t_parts) 71 t_sorts) 72 t_values) L (xy_s S 57 0 ((0 : Int32))))))) (fun K => rfl) ?_
  obtain ⟨q1178, hq1178, h⟩ := Option.bind_eq_some_iff.mp h
  have heq1178 := xh_rf_find_57 (l := l) (g := g) ok (xy_a (xy_a (xy_a (xy_a (xy_a A 66 t_lines) 67 t_numbers) 70 t_parts) 71 t_sorts) 72 t_values) L (xy_s S 57 0 ((0 : Int32))) t_lines t_numbers n ((0 : Int32)) a1 _ hq1178
  refine xe_call1 (ws' := xw_W (xy_a (xy_a (xy_a (xy_a (xy_a A 66 t_lines) 67 t_numbers) 70 t_parts) 71 t_sorts) 72 t_values) L (xy_s S 57 0 ((0 : Int32)))) (by decide) heq1178 (Or.inl rfl) ?_
  refine xe_seg ok 5 (G := (fun K => if q1178 = ((-1 : Int32)) then K (81, xm_i81, xm_I81, 0, 0, 27, [(0, .ref 59), (1, .int a1), (2, .int a2), (3, .int q1178)], [.ref 59], xw_W (xy_a (xy_a (xy_a (xy_a (xy_a A 66 t_lines) 67 t_numbers) 70 t_parts) 71 t_sorts) 72 t_values) L (xy_s S 57 0 ((0 : Int32)))) else K (81, xm_i81, xm_I81, 0, 0, 18, [(0, .ref 59), (1, .int a1), (2, .int a2), (3, .int q1178)], [.ref 59], xw_W (xy_a (xy_a (xy_a (xy_a (xy_a A 66 t_lines) 67 t_numbers) 70 t_parts) 71 t_sorts) 72 t_values) L (xy_s S 57 0 ((0 : Int32)))))) (fun K => rfl) ?_
  rcases xb_if h with ⟨hc1179, h⟩ | ⟨hc1179, h⟩
  · refine xe_pos hc1179 (xe_k ?_)
    refine xe_sub [true, false, true, true] (lv' := [(0, .ref 59), (2, .int a2), (3, .int q1178)]) rfl ?_
    exact xh_rf_place_57_27 ok A L S t_lines t_numbers t_parts t_sorts t_values n ((0 : Int32)) a2 q1178 _ h
  · refine xe_neg hc1179 (xe_k ?_)
    refine xe_seg ok 2 (G := (fun K => if a2 < (0 : Int32) then K (81, xm_i81, xm_I81, 0, 0, 27, [(0, .ref 59), (1, .int a1), (2, .int a2), (3, .int q1178)], [.ref 59], xw_W (xy_a (xy_a (xy_a (xy_a (xy_a A 66 t_lines) 67 t_numbers) 70 t_parts) 71 t_sorts) 72 t_values) L (xy_s S 57 0 ((0 : Int32)))) else K (81, xm_i81, xm_I81, 0, 0, 22, [(0, .ref 59), (1, .int a1), (2, .int a2), (3, .int q1178)], [.ref 59], xw_W (xy_a (xy_a (xy_a (xy_a (xy_a A 66 t_lines) 67 t_numbers) 70 t_parts) 71 t_sorts) 72 t_values) L (xy_s S 57 0 ((0 : Int32)))))) (fun K => rfl) ?_
    rcases xb_if h with ⟨hc1210, h⟩ | ⟨hc1210, h⟩
    · refine xe_pos hc1210 (xe_k ?_)
      refine xe_sub [true, false, true, true] (lv' := [(0, .ref 59), (2, .int a2), (3, .int q1178)]) rfl ?_
      exact xh_rf_place_57_27 ok A L S t_lines t_numbers t_parts t_sorts t_values n ((0 : Int32)) a2 q1178 _ h
    · refine xe_neg hc1210 (xe_k ?_)
      refine xe_seg ok 3 (G := (fun K => if ((2 : Int32)) < a2 then K (81, xm_i81, xm_I81, 0, 0, 27, [(0, .ref 59), (1, .int a1), (2, .int a2), (3, .int q1178)], [.ref 59], xw_W (xy_a (xy_a (xy_a (xy_a (xy_a A 66 t_lines) 67 t_numbers) 70 t_parts) 71 t_sorts) 72 t_values) L (xy_s S 57 0 ((0 : Int32)))) else K (81, xm_i81, xm_I81, 0, 0, 31, [(0, .ref 59), (1, .int a1), (2, .int a2), (3, .int q1178)], [.ref 59], xw_W (xy_a (xy_a (xy_a (xy_a (xy_a A 66 t_lines) 67 t_numbers) 70 t_parts) 71 t_sorts) 72 t_values) L (xy_s S 57 0 ((0 : Int32)))))) (fun K => rfl) ?_
      rcases xb_if h with ⟨hc1211, h⟩ | ⟨hc1211, h⟩
      · refine xe_pos hc1211 (xe_k ?_)
        refine xe_sub [true, false, true, true] (lv' := [(0, .ref 59), (2, .int a2), (3, .int q1178)]) rfl ?_
        exact xh_rf_place_57_27 ok A L S t_lines t_numbers t_parts t_sorts t_values n ((0 : Int32)) a2 q1178 _ h
      · refine xe_neg hc1211 (xe_k ?_)
        refine xe_seg ok 1 (G := (fun K => K (81, xm_i81, xm_I81, 0, 0, 32, [(0, .ref 59), (1, .int a1), (2, .int a2), (3, .int q1178)], [.int ((0 : Int32)), .ref 59], xw_W (xy_a (xy_a (xy_a (xy_a (xy_a A 66 t_lines) 67 t_numbers) 70 t_parts) 71 t_sorts) 72 t_values) L (xy_s S 57 0 ((0 : Int32)))))) (fun K => rfl) ?_
        refine xe_k ?_
        refine xe_sub [true, false, true, true] (lv' := [(0, .ref 59), (2, .int a2), (3, .int q1178)]) rfl ?_
        exact xh_rf_place_57_32 ok A L S t_lines t_numbers t_parts t_sorts t_values n ((0 : Int32)) a2 q1178 ((0 : Int32)) _ h
theorem xh_rf_isSame_69_69_38 {l : Launch} {g : xr_G} (ok : xr_OK xm_P) (A : Nat → Nat → Int32) (L : Nat → Nat → Int64) (S : Nat → Nat → Int32) (p1 : (Nat → Int32)) (p3 : (Nat → Int32)) (n_p1 : Nat) (n_p3 : Nat) {k6 : Int32 → Int32 → Int32 → Int32 → Int32 → Option (Int32)} (hk6 : ∀ (v1 : Int32) (v3 : Int32) (v4 : Int32) (v5 : Int32) (v6 : Int32) (r : (Int32)), k6 v1 v3 v4 v5 v6 = some r → xV xm_P l g (47, xm_i47, xm_I47, 0, 0, 6, [(0, .ref 71), (1, .int v1), (2, .ref 71), (3, .int v3), (4, .int v4), (5, .int v5), (6, .int v6)], [], xw_W (xy_a (xy_a A 69 p1) 69 p3) L S) (.inl (some (.int r)), xw_W (xy_a (xy_a A 69 p1) 69 p3) L S)) (n : Nat) : ∀ (v1 : Int32) (v3 : Int32) (v4 : Int32) (v6 : Int32) (s0 : Int32) (r : (Int32)), xf_rf_isSame_38 p1 p3 n_p1 n_p3 k6 n v1 v3 v4 v6 s0 = some r → xV xm_P l g (47, xm_i47, xm_I47, 0, 0, 38, [(0, .ref 71), (1, .int v1), (2, .ref 71), (3, .int v3), (4, .int v4), (6, .int v6)], [.int s0], xw_W (xy_a (xy_a A 69 p1) 69 p3) L S) (.inl (some (.int r)), xw_W (xy_a (xy_a A 69 p1) 69 p3) L S) := by
  intro v1 v3 v4 v6 s0 r h
  unfold xf_rf_isSame_38 at h
  refine xe_seg ok 3 (G := (fun K => K (47, xm_i47, xm_I47, 0, 0, 6, [(0, .ref 71), (1, .int v1), (2, .ref 71), (3, .int v3), (4, .int v4), (5, .int s0), (6, .int (v6 + (1 : Int32)))], [], xw_W (xy_a (xy_a A 69 p1) 69 p3) L S))) (fun K => rfl) ?_
  refine xe_k ?_
  refine xe_sub [true, true, true, true, true, true, true] (lv' := [(0, .ref 71), (1, .int v1), (2, .ref 71), (3, .int v3), (4, .int v4), (5, .int s0), (6, .int (v6 + (1 : Int32)))]) rfl ?_
  exact hk6 v1 v3 v4 s0 (v6 + (1 : Int32)) _ h
theorem xh_rf_isSame_69_69_37 {l : Launch} {g : xr_G} (ok : xr_OK xm_P) (A : Nat → Nat → Int32) (L : Nat → Nat → Int64) (S : Nat → Nat → Int32) (p1 : (Nat → Int32)) (p3 : (Nat → Int32)) (n_p1 : Nat) (n_p3 : Nat) {k6 : Int32 → Int32 → Int32 → Int32 → Int32 → Option (Int32)} (hk6 : ∀ (v1 : Int32) (v3 : Int32) (v4 : Int32) (v5 : Int32) (v6 : Int32) (r : (Int32)), k6 v1 v3 v4 v5 v6 = some r → xV xm_P l g (47, xm_i47, xm_I47, 0, 0, 6, [(0, .ref 71), (1, .int v1), (2, .ref 71), (3, .int v3), (4, .int v4), (5, .int v5), (6, .int v6)], [], xw_W (xy_a (xy_a A 69 p1) 69 p3) L S) (.inl (some (.int r)), xw_W (xy_a (xy_a A 69 p1) 69 p3) L S)) (n : Nat) : ∀ (v1 : Int32) (v3 : Int32) (v4 : Int32) (v6 : Int32) (r : (Int32)), xf_rf_isSame_37 p1 p3 n_p1 n_p3 k6 n v1 v3 v4 v6 = some r → xV xm_P l g (47, xm_i47, xm_I47, 0, 0, 37, [(0, .ref 71), (1, .int v1), (2, .ref 71), (3, .int v3), (4, .int v4), (6, .int v6)], [], xw_W (xy_a (xy_a A 69 p1) 69 p3) L S) (.inl (some (.int r)), xw_W (xy_a (xy_a A 69 p1) 69 p3) L S) := by
  intro v1 v3 v4 v6 r h
  unfold xf_rf_isSame_37 at h
  refine xe_seg ok 1 (G := (fun K => K (47, xm_i47, xm_I47, 0, 0, 38, [(0, .ref 71), (1, .int v1), (2, .ref 71), (3, .int v3), (4, .int v4), (6, .int v6)], [.int ((0 : Int32))], xw_W (xy_a (xy_a A 69 p1) 69 p3) L S))) (fun K => rfl) ?_
  refine xe_k ?_
  refine xe_sub [true, true, true, true, true, true] (lv' := [(0, .ref 71), (1, .int v1), (2, .ref 71), (3, .int v3), (4, .int v4), (6, .int v6)]) rfl ?_
  exact xh_rf_isSame_69_69_38 ok A L S p1 p3 n_p1 n_p3 hk6 n v1 v3 v4 v6 ((0 : Int32)) _ h
theorem xh_rf_isSame_69_69_6 {l : Launch} {g : xr_G} (ok : xr_OK xm_P) (A : Nat → Nat → Int32) (L : Nat → Nat → Int64) (S : Nat → Nat → Int32) (p1 : (Nat → Int32)) (p3 : (Nat → Int32)) (n_p1 : Nat) (n_p3 : Nat) (n : Nat) : ∀ (N : Nat) (v1 : Int32) (v3 : Int32) (v4 : Int32) (v5 : Int32) (v6 : Int32) (r : (Int32)), xf_rf_isSame_6 p1 p3 n_p1 n_p3 n N v1 v3 v4 v5 v6 = some r → xV xm_P l g (47, xm_i47, xm_I47, 0, 0, 6, [(0, .ref 71), (1, .int v1), (2, .ref 71), (3, .int v3), (4, .int v4), (5, .int v5), (6, .int v6)], [], xw_W (xy_a (xy_a A 69 p1) 69 p3) L S) (.inl (some (.int r)), xw_W (xy_a (xy_a A 69 p1) 69 p3) L S) := by
  intro N
  induction N with
  | zero => intro v1 v3 v4 v5 v6 r h; cases h
  | succ N hk6 =>
    intro v1 v3 v4 v5 v6 r h
    refine xe_seg ok 3 (G := (fun K => if v6 < v4 then K (47, xm_i47, xm_I47, 0, 0, 13, [(0, .ref 71), (1, .int v1), (2, .ref 71), (3, .int v3), (4, .int v4), (5, .int v5), (6, .int v6)], [], xw_W (xy_a (xy_a A 69 p1) 69 p3) L S) else K (47, xm_i47, xm_I47, 0, 0, 46, [(0, .ref 71), (1, .int v1), (2, .ref 71), (3, .int v3), (4, .int v4), (5, .int v5), (6, .int v6)], [], xw_W (xy_a (xy_a A 69 p1) 69 p3) L S))) (fun K => rfl) ?_
    rcases xb_if h with ⟨hc1237, h⟩ | ⟨hc1237, h⟩
    · refine xe_pos hc1237 (xe_k ?_)
      refine xe_seg ok 2 (G := (fun K => if v5 = (0 : Int32) then K (47, xm_i47, xm_I47, 0, 0, 37, [(0, .ref 71), (1, .int v1), (2, .ref 71), (3, .int v3), (4, .int v4), (5, .int v5), (6, .int v6)], [], xw_W (xy_a (xy_a A 69 p1) 69 p3) L S) else K (47, xm_i47, xm_I47, 0, 0, 18, [(0, .ref 71), (1, .int v1), (2, .ref 71), (3, .int v3), (4, .int v4), (5, .int v5), (6, .int v6)], [], xw_W (xy_a (xy_a A 69 p1) 69 p3) L S))) (fun K => rfl) ?_
      rcases xb_if h with ⟨hc1238, h⟩ | ⟨hc1238, h⟩
      · refine xe_pos hc1238 (xe_k ?_)
        refine xe_sub [true, true, true, true, true, false, true] (lv' := [(0, .ref 71), (1, .int v1), (2, .ref 71), (3, .int v3), (4, .int v4), (6, .int v6)]) rfl ?_
        exact xh_rf_isSame_69_69_37 ok A L S p1 p3 n_p1 n_p3 hk6 n v1 v3 v4 v6 _ h
      · refine xe_neg hc1238 (xe_k ?_)
        refine xe_seg ok 5 (G := (fun K => if xr_in (v1 + v6) 960 = true then K (47, xm_i47, xm_I47, 0, 0, 24, [(0, .ref 71), (1, .int v1), (2, .ref 71), (3, .int v3), (4, .int v4), (5, .int v5), (6, .int v6)], [.int (p1 (v1 + v6).toNatClampNeg)], xw_W (xy_a (xy_a A 69 p1) 69 p3) L S) else none)) (fun K => rfl) ?_
        obtain ⟨hg1239, h⟩ := xn_if h
        refine xe_pos hg1239 (xe_k ?_)
        refine xe_seg ok 5 (G := (fun K => if xr_in (v3 + v6) 960 = true then K (47, xm_i47, xm_I47, 0, 0, 30, [(0, .ref 71), (1, .int v1), (2, .ref 71), (3, .int v3), (4, .int v4), (5, .int v5), (6, .int v6)], [.int (p3 (v3 + v6).toNatClampNeg), .int (p1 (v1 + v6).toNatClampNeg)], xw_W (xy_a (xy_a A 69 p1) 69 p3) L S) else none)) (fun K => rfl) ?_
        obtain ⟨hg1240, h⟩ := xn_if h
        refine xe_pos hg1240 (xe_k ?_)
        refine xe_seg ok 1 (G := (fun K => if (p1 (v1 + v6).toNatClampNeg) = (p3 (v3 + v6).toNatClampNeg) then K (47, xm_i47, xm_I47, 0, 0, 33, [(0, .ref 71), (1, .int v1), (2, .ref 71), (3, .int v3), (4, .int v4), (5, .int v5), (6, .int v6)], [], xw_W (xy_a (xy_a A 69 p1) 69 p3) L S) else K (47, xm_i47, xm_I47, 0, 0, 37, [(0, .ref 71), (1, .int v1), (2, .ref 71), (3, .int v3), (4, .int v4), (5, .int v5), (6, .int v6)], [], xw_W (xy_a (xy_a A 69 p1) 69 p3) L S))) (fun K => rfl) ?_
        rcases xb_if h with ⟨hc1241, h⟩ | ⟨hc1241, h⟩
        · refine xe_pos hc1241 (xe_k ?_)
          refine xe_seg ok 2 (G := (fun K => K (47, xm_i47, xm_I47, 0, 0, 38, [(0, .ref 71), (1, .int v1), (2, .ref 71), (3, .int v3), (4, .int v4), (5, .int v5), (6, .int v6)], [.int ((1 : Int32))], xw_W (xy_a (xy_a A 69 p1) 69 p3) L S))) (fun K => rfl) ?_
          refine xe_k ?_
          refine xe_sub [true, true, true, true, true, false, true] (lv' := [(0, .ref 71), (1, .int v1), (2, .ref 71), (3, .int v3), (4, .int v4), (6, .int v6)]) rfl ?_
          exact xh_rf_isSame_69_69_38 ok A L S p1 p3 n_p1 n_p3 hk6 n v1 v3 v4 v6 ((1 : Int32)) _ h
        · refine xe_neg hc1241 (xe_k ?_)
          refine xe_sub [true, true, true, true, true, false, true] (lv' := [(0, .ref 71), (1, .int v1), (2, .ref 71), (3, .int v3), (4, .int v4), (6, .int v6)]) rfl ?_
          exact xh_rf_isSame_69_69_37 ok A L S p1 p3 n_p1 n_p3 hk6 n v1 v3 v4 v6 _ h
    · refine xe_neg hc1237 (xe_k ?_)
      refine xe_seg ok 2 (G := (fun _ => if fits .boolean (.int v5) = true then some (.inl (some (.int v5)), xw_W (xy_a (xy_a A 69 p1) 69 p3) L S) else none)) (fun K => rfl) ?_
      obtain ⟨hg1242, h⟩ := xn_if h
      obtain rfl := Option.some.inj h
      exact xe_pos (A := fun _ => some (.inl (some (.int v5)), xw_W (xy_a (xy_a A 69 p1) 69 p3) L S)) (B := fun _ => none) hg1242 xe_ret
theorem xh_rf_isSame_69_69 {l : Launch} {g : xr_G} (ok : xr_OK xm_P) (A : Nat → Nat → Int32) (L : Nat → Nat → Int64) (S : Nat → Nat → Int32) (p1 : (Nat → Int32)) (p3 : (Nat → Int32)) (n_p1 : Nat) (n_p3 : Nat) (n : Nat) : ∀ (a2 : Int32) (a4 : Int32) (a5 : Int32) (r : (Int32)), xf_rf_isSame p1 p3 n_p1 n_p3 n a2 a4 a5 = some r → xV xm_P l g (47, xm_i47, xm_I47, 0, 0, 0, [(0, .ref 71), (1, .int a2), (2, .ref 71), (3, .int a4), (4, .int a5)], [], xw_W (xy_a (xy_a A 69 p1) 69 p3) L S) (.inl (some (.int r)), xw_W (xy_a (xy_a A 69 p1) 69 p3) L S) := by
  intro a2 a4 a5 r h
  unfold xf_rf_isSame at h
  refine xe_seg ok 4 (G := (fun K => K (47, xm_i47, xm_I47, 0, 0, 6, [(0, .ref 71), (1, .int a2), (2, .ref 71), (3, .int a4), (4, .int a5), (5, .int ((1 : Int32))), (6, .int ((0 : Int32)))], [], xw_W (xy_a (xy_a A 69 p1) 69 p3) L S))) (fun K => rfl) ?_
  refine xe_k ?_
  refine xe_sub [true, true, true, true, true, true, true] (lv' := [(0, .ref 71), (1, .int a2), (2, .ref 71), (3, .int a4), (4, .int a5), (5, .int ((1 : Int32))), (6, .int ((0 : Int32)))]) rfl ?_
  exact xh_rf_isSame_69_69_6 ok A L S p1 p3 n_p1 n_p3 n n a2 a4 a5 ((1 : Int32)) ((0 : Int32)) _ h
theorem xh_rf_isLineAlike_57_107 {l : Launch} {g : xr_G} (ok : xr_OK xm_P) (A : Nat → Nat → Int32) (L : Nat → Nat → Int64) (S : Nat → Nat → Int32) (t_items : (Nat → Int32)) (t_letters : (Nat → Int32)) (t_likes : (Nat → Int32)) (t_lines : (Nat → Int32)) (t_names : (Nat → Int32)) (t_numbers : (Nat → Int32)) (t_parts : (Nat → Int32)) (t_sorts : (Nat → Int32)) (t_values : (Nat → Int32)) (n : Nat) : ∀ (v3 : Int32) (r : (Int32)), xf_rf_isLineAlike_107 t_items t_letters t_likes t_lines t_names t_numbers t_parts t_sorts t_values n v3 = some r → xV xm_P l g (83, xm_i83, xm_I83, 0, 0, 107, [(3, .int v3)], [], xw_W (xy_a (xy_a (xy_a (xy_a (xy_a (xy_a (xy_a (xy_a (xy_a A 73 t_items) 68 t_letters) 75 t_likes) 66 t_lines) 69 t_names) 67 t_numbers) 70 t_parts) 71 t_sorts) 72 t_values) L S) (.inl (some (.int r)), xw_W (xy_a (xy_a (xy_a (xy_a (xy_a (xy_a (xy_a (xy_a (xy_a A 73 t_items) 68 t_letters) 75 t_likes) 66 t_lines) 69 t_names) 67 t_numbers) 70 t_parts) 71 t_sorts) 72 t_values) L S) := by
  intro v3 r h
  unfold xf_rf_isLineAlike_107 at h
  refine xe_seg ok 2 (G := (fun _ => if fits .boolean (.int v3) = true then some (.inl (some (.int v3)), xw_W (xy_a (xy_a (xy_a (xy_a (xy_a (xy_a (xy_a (xy_a (xy_a A 73 t_items) 68 t_letters) 75 t_likes) 66 t_lines) 69 t_names) 67 t_numbers) 70 t_parts) 71 t_sorts) 72 t_values) L S) else none)) (fun K => rfl) ?_
  obtain ⟨hg1248, h⟩ := xn_if h
  obtain rfl := Option.some.inj h
  exact xe_pos (A := fun _ => some (.inl (some (.int v3)), xw_W (xy_a (xy_a (xy_a (xy_a (xy_a (xy_a (xy_a (xy_a (xy_a A 73 t_items) 68 t_letters) 75 t_likes) 66 t_lines) 69 t_names) 67 t_numbers) 70 t_parts) 71 t_sorts) 72 t_values) L S)) (B := fun _ => none) hg1248 xe_ret
theorem xh_rf_isArgumentAlike_57_57 {l : Launch} {g : xr_G} (ok : xr_OK xm_P) (A : Nat → Nat → Int32) (L : Nat → Nat → Int64) (S : Nat → Nat → Int32) (t_items : (Nat → Int32)) (t_likes : (Nat → Int32)) (t_lines : (Nat → Int32)) (t_numbers : (Nat → Int32)) (t_sorts : (Nat → Int32)) (t_values : (Nat → Int32)) (n : Nat) : ∀ (s0 : Int32) (r : (Int32)), xf_rf_isArgumentAlike_57 t_items t_likes t_lines t_numbers t_sorts t_values n s0 = some r → xV xm_P l g (82, xm_i82, xm_I82, 0, 0, 57, [], [.int s0], xw_W (xy_a (xy_a (xy_a (xy_a (xy_a (xy_a A 73 t_items) 75 t_likes) 66 t_lines) 67 t_numbers) 71 t_sorts) 72 t_values) L S) (.inl (some (.int r)), xw_W (xy_a (xy_a (xy_a (xy_a (xy_a (xy_a A 73 t_items) 75 t_likes) 66 t_lines) 67 t_numbers) 71 t_sorts) 72 t_values) L S) := by
  intro s0 r h
  unfold xf_rf_isArgumentAlike_57 at h
  refine xe_seg ok 1 (G := (fun _ => if fits .boolean (.int s0) = true then some (.inl (some (.int s0)), xw_W (xy_a (xy_a (xy_a (xy_a (xy_a (xy_a A 73 t_items) 75 t_likes) 66 t_lines) 67 t_numbers) 71 t_sorts) 72 t_values) L S) else none)) (fun K => rfl) ?_
  obtain ⟨hg1257, h⟩ := xn_if h
  obtain rfl := Option.some.inj h
  exact xe_pos (A := fun _ => some (.inl (some (.int s0)), xw_W (xy_a (xy_a (xy_a (xy_a (xy_a (xy_a A 73 t_items) 75 t_likes) 66 t_lines) 67 t_numbers) 71 t_sorts) 72 t_values) L S)) (B := fun _ => none) hg1257 xe_ret
theorem xh_rf_isArgumentAlike_57_37 {l : Launch} {g : xr_G} (ok : xr_OK xm_P) (A : Nat → Nat → Int32) (L : Nat → Nat → Int64) (S : Nat → Nat → Int32) (t_items : (Nat → Int32)) (t_likes : (Nat → Int32)) (t_lines : (Nat → Int32)) (t_numbers : (Nat → Int32)) (t_sorts : (Nat → Int32)) (t_values : (Nat → Int32)) (n : Nat) : ∀ (v1 : Int32) (v2 : Int32) (r : (Int32)), xf_rf_isArgumentAlike_37 t_items t_likes t_lines t_numbers t_sorts t_values n v1 v2 = some r → xV xm_P l g (82, xm_i82, xm_I82, 0, 0, 37, [(0, .ref 59), (1, .int v1), (2, .int v2)], [], xw_W (xy_a (xy_a (xy_a (xy_a (xy_a (xy_a A 73 t_items) 75 t_likes) 66 t_lines) 67 t_numbers) 71 t_sorts) 72 t_values) L S) (.inl (some (.int r)), xw_W (xy_a (xy_a (xy_a (xy_a (xy_a (xy_a A 73 t_items) 75 t_likes) 66 t_lines) 67 t_numbers) 71 t_sorts) 72 t_values) L S) := by
  intro v1 v2 r h
  unfold xf_rf_isArgumentAlike_37 at h
  refine xe_seg ok 4 (G := (fun K => if xr_in v1 960 = true then K (82, xm_i82, xm_I82, 0, 0, 43, [(0, .ref 59), (1, .int v1), (2, .int v2)], [.int (t_values v1.toNatClampNeg)], xw_W (xy_a (xy_a (xy_a (xy_a (xy_a (xy_a A 73 t_items) 75 t_likes) 66 t_lines) 67 t_numbers) 71 t_sorts) 72 t_values) L S) else none)) (fun K => rfl) ?_
  obtain ⟨hg1254, h⟩ := xn_if h
  refine xe_pos hg1254 (xe_k ?_)
  refine xe_seg ok 4 (G := (fun K => if xr_in v2 960 = true then K (82, xm_i82, xm_I82, 0, 0, 49, [(0, .ref 59), (1, .int v1), (2, .int v2)], [.int (t_values v2.toNatClampNeg), .int (t_values v1.toNatClampNeg)], xw_W (xy_a (xy_a (xy_a (xy_a (xy_a (xy_a A 73 t_items) 75 t_likes) 66 t_lines) 67 t_numbers) 71 t_sorts) 72 t_values) L S) else none)) (fun K => rfl) ?_
  obtain ⟨hg1255, h⟩ := xn_if h
  refine xe_pos hg1255 (xe_k ?_)
  refine xe_seg ok 1 (G := (fun K => if (t_values v1.toNatClampNeg) = (t_values v2.toNatClampNeg) then K (82, xm_i82, xm_I82, 0, 0, 52, [(0, .ref 59), (1, .int v1), (2, .int v2)], [], xw_W (xy_a (xy_a (xy_a (xy_a (xy_a (xy_a A 73 t_items) 75 t_likes) 66 t_lines) 67 t_numbers) 71 t_sorts) 72 t_values) L S) else K (82, xm_i82, xm_I82, 0, 0, 56, [(0, .ref 59), (1, .int v1), (2, .int v2)], [], xw_W (xy_a (xy_a (xy_a (xy_a (xy_a (xy_a A 73 t_items) 75 t_likes) 66 t_lines) 67 t_numbers) 71 t_sorts) 72 t_values) L S))) (fun K => rfl) ?_
  rcases xb_if h with ⟨hc1256, h⟩ | ⟨hc1256, h⟩
  · refine xe_pos hc1256 (xe_k ?_)
    refine xe_seg ok 2 (G := (fun K => K (82, xm_i82, xm_I82, 0, 0, 57, [(0, .ref 59), (1, .int v1), (2, .int v2)], [.int ((1 : Int32))], xw_W (xy_a (xy_a (xy_a (xy_a (xy_a (xy_a A 73 t_items) 75 t_likes) 66 t_lines) 67 t_numbers) 71 t_sorts) 72 t_values) L S))) (fun K => rfl) ?_
    refine xe_k ?_
    refine xe_sub [false, false, false] (lv' := []) rfl ?_
    exact xh_rf_isArgumentAlike_57_57 ok A L S t_items t_likes t_lines t_numbers t_sorts t_values n ((1 : Int32)) _ h
  · refine xe_neg hc1256 (xe_k ?_)
    refine xe_seg ok 1 (G := (fun K => K (82, xm_i82, xm_I82, 0, 0, 57, [(0, .ref 59), (1, .int v1), (2, .int v2)], [.int ((0 : Int32))], xw_W (xy_a (xy_a (xy_a (xy_a (xy_a (xy_a A 73 t_items) 75 t_likes) 66 t_lines) 67 t_numbers) 71 t_sorts) 72 t_values) L S))) (fun K => rfl) ?_
    refine xe_k ?_
    refine xe_sub [false, false, false] (lv' := []) rfl ?_
    exact xh_rf_isArgumentAlike_57_57 ok A L S t_items t_likes t_lines t_numbers t_sorts t_values n ((0 : Int32)) _ h
theorem xh_rf_isArgumentAlike_57_98 {l : Launch} {g : xr_G} (ok : xr_OK xm_P) (A : Nat → Nat → Int32) (L : Nat → Nat → Int64) (S : Nat → Nat → Int32) (t_items : (Nat → Int32)) (t_likes : (Nat → Int32)) (t_lines : (Nat → Int32)) (t_numbers : (Nat → Int32)) (t_sorts : (Nat → Int32)) (t_values : (Nat → Int32)) (n : Nat) : ∀ (s0 : Int32) (r : (Int32)), xf_rf_isArgumentAlike_98 t_items t_likes t_lines t_numbers t_sorts t_values n s0 = some r → xV xm_P l g (82, xm_i82, xm_I82, 0, 0, 98, [], [.int s0], xw_W (xy_a (xy_a (xy_a (xy_a (xy_a (xy_a A 73 t_items) 75 t_likes) 66 t_lines) 67 t_numbers) 71 t_sorts) 72 t_values) L S) (.inl (some (.int r)), xw_W (xy_a (xy_a (xy_a (xy_a (xy_a (xy_a A 73 t_items) 75 t_likes) 66 t_lines) 67 t_numbers) 71 t_sorts) 72 t_values) L S) := by
  intro s0 r h
  unfold xf_rf_isArgumentAlike_98 at h
  refine xe_seg ok 1 (G := (fun _ => if fits .boolean (.int s0) = true then some (.inl (some (.int s0)), xw_W (xy_a (xy_a (xy_a (xy_a (xy_a (xy_a A 73 t_items) 75 t_likes) 66 t_lines) 67 t_numbers) 71 t_sorts) 72 t_values) L S) else none)) (fun K => rfl) ?_
  obtain ⟨hg1267, h⟩ := xn_if h
  obtain rfl := Option.some.inj h
  exact xe_pos (A := fun _ => some (.inl (some (.int s0)), xw_W (xy_a (xy_a (xy_a (xy_a (xy_a (xy_a A 73 t_items) 75 t_likes) 66 t_lines) 67 t_numbers) 71 t_sorts) 72 t_values) L S)) (B := fun _ => none) hg1267 xe_ret
theorem xh_rf_isArgumentAlike_57_204 {l : Launch} {g : xr_G} (ok : xr_OK xm_P) (A : Nat → Nat → Int32) (L : Nat → Nat → Int64) (S : Nat → Nat → Int32) (t_items : (Nat → Int32)) (t_likes : (Nat → Int32)) (t_lines : (Nat → Int32)) (t_numbers : (Nat → Int32)) (t_sorts : (Nat → Int32)) (t_values : (Nat → Int32)) {k157 : Int32 → Int32 → Int32 → Int32 → Option (Int32)} (hk157 : ∀ (v1 : Int32) (v2 : Int32) (v3 : Int32) (v4 : Int32) (r : (Int32)), k157 v1 v2 v3 v4 = some r → xV xm_P l g (82, xm_i82, xm_I82, 0, 0, 157, [(0, .ref 59), (1, .int v1), (2, .int v2), (3, .int v3), (4, .int v4)], [], xw_W (xy_a (xy_a (xy_a (xy_a (xy_a (xy_a A 73 t_items) 75 t_likes) 66 t_lines) 67 t_numbers) 71 t_sorts) 72 t_values) L S) (.inl (some (.int r)), xw_W (xy_a (xy_a (xy_a (xy_a (xy_a (xy_a A 73 t_items) 75 t_likes) 66 t_lines) 67 t_numbers) 71 t_sorts) 72 t_values) L S)) (n : Nat) : ∀ (v1 : Int32) (v2 : Int32) (v4 : Int32) (s0 : Int32) (r : (Int32)), xf_rf_isArgumentAlike_204 t_items t_likes t_lines t_numbers t_sorts t_values k157 n v1 v2 v4 s0 = some r → xV xm_P l g (82, xm_i82, xm_I82, 0, 0, 204, [(0, .ref 59), (1, .int v1), (2, .int v2), (4, .int v4)], [.int s0], xw_W (xy_a (xy_a (xy_a (xy_a (xy_a (xy_a A 73 t_items) 75 t_likes) 66 t_lines) 67 t_numbers) 71 t_sorts) 72 t_values) L S) (.inl (some (.int r)), xw_W (xy_a (xy_a (xy_a (xy_a (xy_a (xy_a A 73 t_items) 75 t_likes) 66 t_lines) 67 t_numbers) 71 t_sorts) 72 t_values) L S) := by
  intro v1 v2 v4 s0 r h
  unfold xf_rf_isArgumentAlike_204 at h
  refine xe_seg ok 3 (G := (fun K => K (82, xm_i82, xm_I82, 0, 0, 157, [(0, .ref 59), (1, .int v1), (2, .int v2), (3, .int s0), (4, .int (v4 + (1 : Int32)))], [], xw_W (xy_a (xy_a (xy_a (xy_a (xy_a (xy_a A 73 t_items) 75 t_likes) 66 t_lines) 67 t_numbers) 71 t_sorts) 72 t_values) L S))) (fun K => rfl) ?_
  refine xe_k ?_
  refine xe_sub [true, true, true, true, true] (lv' := [(0, .ref 59), (1, .int v1), (2, .int v2), (3, .int s0), (4, .int (v4 + (1 : Int32)))]) rfl ?_
  exact hk157 v1 v2 s0 (v4 + (1 : Int32)) _ h
theorem xh_rf_isArgumentAlike_57_203 {l : Launch} {g : xr_G} (ok : xr_OK xm_P) (A : Nat → Nat → Int32) (L : Nat → Nat → Int64) (S : Nat → Nat → Int32) (t_items : (Nat → Int32)) (t_likes : (Nat → Int32)) (t_lines : (Nat → Int32)) (t_numbers : (Nat → Int32)) (t_sorts : (Nat → Int32)) (t_values : (Nat → Int32)) {k157 : Int32 → Int32 → Int32 → Int32 → Option (Int32)} (hk157 : ∀ (v1 : Int32) (v2 : Int32) (v3 : Int32) (v4 : Int32) (r : (Int32)), k157 v1 v2 v3 v4 = some r → xV xm_P l g (82, xm_i82, xm_I82, 0, 0, 157, [(0, .ref 59), (1, .int v1), (2, .int v2), (3, .int v3), (4, .int v4)], [], xw_W (xy_a (xy_a (xy_a (xy_a (xy_a (xy_a A 73 t_items) 75 t_likes) 66 t_lines) 67 t_numbers) 71 t_sorts) 72 t_values) L S) (.inl (some (.int r)), xw_W (xy_a (xy_a (xy_a (xy_a (xy_a (xy_a A 73 t_items) 75 t_likes) 66 t_lines) 67 t_numbers) 71 t_sorts) 72 t_values) L S)) (n : Nat) : ∀ (v1 : Int32) (v2 : Int32) (v4 : Int32) (r : (Int32)), xf_rf_isArgumentAlike_203 t_items t_likes t_lines t_numbers t_sorts t_values k157 n v1 v2 v4 = some r → xV xm_P l g (82, xm_i82, xm_I82, 0, 0, 203, [(0, .ref 59), (1, .int v1), (2, .int v2), (4, .int v4)], [], xw_W (xy_a (xy_a (xy_a (xy_a (xy_a (xy_a A 73 t_items) 75 t_likes) 66 t_lines) 67 t_numbers) 71 t_sorts) 72 t_values) L S) (.inl (some (.int r)), xw_W (xy_a (xy_a (xy_a (xy_a (xy_a (xy_a A 73 t_items) 75 t_likes) 66 t_lines) 67 t_numbers) 71 t_sorts) 72 t_values) L S) := by
  intro v1 v2 v4 r h
  unfold xf_rf_isArgumentAlike_203 at h
  refine xe_seg ok 1 (G := (fun K => K (82, xm_i82, xm_I82, 0, 0, 204, [(0, .ref 59), (1, .int v1), (2, .int v2), (4, .int v4)], [.int ((0 : Int32))], xw_W (xy_a (xy_a (xy_a (xy_a (xy_a (xy_a A 73 t_items) 75 t_likes) 66 t_lines) 67 t_numbers) 71 t_sorts) 72 t_values) L S))) (fun K => rfl) ?_
  refine xe_k ?_
  refine xe_sub [true, true, true, true] (lv' := [(0, .ref 59), (1, .int v1), (2, .int v2), (4, .int v4)]) rfl ?_
  exact xh_rf_isArgumentAlike_57_204 ok A L S t_items t_likes t_lines t_numbers t_sorts t_values hk157 n v1 v2 v4 ((0 : Int32)) _ h
theorem xh_rf_isArgumentAlike_57_157 {l : Launch} {g : xr_G} (ok : xr_OK xm_P) (A : Nat → Nat → Int32) (L : Nat → Nat → Int64) (S : Nat → Nat → Int32) (t_items : (Nat → Int32)) (t_likes : (Nat → Int32)) (t_lines : (Nat → Int32)) (t_numbers : (Nat → Int32)) (t_sorts : (Nat → Int32)) (t_values : (Nat → Int32)) (n : Nat) : ∀ (N : Nat) (v1 : Int32) (v2 : Int32) (v3 : Int32) (v4 : Int32) (r : (Int32)), xf_rf_isArgumentAlike_157 t_items t_likes t_lines t_numbers t_sorts t_values n N v1 v2 v3 v4 = some r → xV xm_P l g (82, xm_i82, xm_I82, 0, 0, 157, [(0, .ref 59), (1, .int v1), (2, .int v2), (3, .int v3), (4, .int v4)], [], xw_W (xy_a (xy_a (xy_a (xy_a (xy_a (xy_a A 73 t_items) 75 t_likes) 66 t_lines) 67 t_numbers) 71 t_sorts) 72 t_values) L S) (.inl (some (.int r)), xw_W (xy_a (xy_a (xy_a (xy_a (xy_a (xy_a A 73 t_items) 75 t_likes) 66 t_lines) 67 t_numbers) 71 t_sorts) 72 t_values) L S) := by
  intro N
  induction N with
  | zero => intro v1 v2 v3 v4 r h; cases h
  | succ N hk157 =>
    intro v1 v2 v3 v4 r h
    refine xe_seg ok 5 (G := (fun K => if xr_in v1 960 = true then K (82, xm_i82, xm_I82, 0, 0, 165, [(0, .ref 59), (1, .int v1), (2, .int v2), (3, .int v3), (4, .int v4)], [.int (t_values v1.toNatClampNeg), .int v4], xw_W (xy_a (xy_a (xy_a (xy_a (xy_a (xy_a A 73 t_items) 75 t_likes) 66 t_lines) 67 t_numbers) 71 t_sorts) 72 t_values) L S) else none)) (fun K => rfl) ?_
    obtain ⟨hg1273, h⟩ := xn_if h
    refine xe_pos hg1273 (xe_k ?_)
    refine xe_seg ok 1 (G := (fun K => if v4 < (t_values v1.toNatClampNeg) then K (82, xm_i82, xm_I82, 0, 0, 168, [(0, .ref 59), (1, .int v1), (2, .int v2), (3, .int v3), (4, .int v4)], [], xw_W (xy_a (xy_a (xy_a (xy_a (xy_a (xy_a A 73 t_items) 75 t_likes) 66 t_lines) 67 t_numbers) 71 t_sorts) 72 t_values) L S) else K (82, xm_i82, xm_I82, 0, 0, 211, [(0, .ref 59), (1, .int v1), (2, .int v2), (3, .int v3), (4, .int v4)], [], xw_W (xy_a (xy_a (xy_a (xy_a (xy_a (xy_a A 73 t_items) 75 t_likes) 66 t_lines) 67 t_numbers) 71 t_sorts) 72 t_values) L S))) (fun K => rfl) ?_
    rcases xb_if h with ⟨hc1274, h⟩ | ⟨hc1274, h⟩
    · refine xe_pos hc1274 (xe_k ?_)
      refine xe_seg ok 2 (G := (fun K => if v3 = (0 : Int32) then K (82, xm_i82, xm_I82, 0, 0, 203, [(0, .ref 59), (1, .int v1), (2, .int v2), (3, .int v3), (4, .int v4)], [], xw_W (xy_a (xy_a (xy_a (xy_a (xy_a (xy_a A 73 t_items) 75 t_likes) 66 t_lines) 67 t_numbers) 71 t_sorts) 72 t_values) L S) else K (82, xm_i82, xm_I82, 0, 0, 172, [(0, .ref 59), (1, .int v1), (2, .int v2), (3, .int v3), (4, .int v4)], [], xw_W (xy_a (xy_a (xy_a (xy_a (xy_a (xy_a A 73 t_items) 75 t_likes) 66 t_lines) 67 t_numbers) 71 t_sorts) 72 t_values) L S))) (fun K => rfl) ?_
      rcases xb_if h with ⟨hc1275, h⟩ | ⟨hc1275, h⟩
      · refine xe_pos hc1275 (xe_k ?_)
        refine xe_sub [true, true, true, false, true] (lv' := [(0, .ref 59), (1, .int v1), (2, .int v2), (4, .int v4)]) rfl ?_
        exact xh_rf_isArgumentAlike_57_203 ok A L S t_items t_likes t_lines t_numbers t_sorts t_values hk157 n v1 v2 v4 _ h
      · refine xe_neg hc1275 (xe_k ?_)
        refine xe_seg ok 6 (G := (fun K => xr_back K 82 xm_i82 xm_I82 0 0 180 [(0, .ref 59), (1, .int v1), (2, .int v2), (3, .int v3), (4, .int v4)] [.ref 77] 78 true (K (66, xm_i66, xm_I66, 0, 0, 0, [(0, .ref 59), (1, .int v1), (2, .int v4)], [], xw_W (xy_a (xy_a (xy_a (xy_a (xy_a (xy_a A 73 t_items) 75 t_likes) 66 t_lines) 67 t_numbers) 71 t_sorts) 72 t_values) L S)))) (fun K => rfl) ?_
        obtain ⟨q1276, hq1276, h⟩ := Option.bind_eq_some_iff.mp h
        have heq1276 := xh_rf_referred_57 (l := l) (g := g) ok (xy_a (xy_a (xy_a (xy_a (xy_a (xy_a A 73 t_items) 75 t_likes) 66 t_lines) 67 t_numbers) 71 t_sorts) 72 t_values) L S t_items t_lines t_numbers t_sorts t_values n v1 v4 _ hq1276
        refine xe_call1 (ws' := xw_W (xy_a (xy_a (xy_a (xy_a (xy_a (xy_a A 73 t_items) 75 t_likes) 66 t_lines) 67 t_numbers) 71 t_sorts) 72 t_values) L S) (by decide) heq1276 (Or.inl rfl) ?_
        refine xe_seg ok 1 (G := (fun K => if xr_in q1276 40 = true then K (82, xm_i82, xm_I82, 0, 0, 184, [(0, .ref 59), (1, .int v1), (2, .int v2), (3, .int v3), (4, .int v4)], [.int (t_likes q1276.toNatClampNeg)], xw_W (xy_a (xy_a (xy_a (xy_a (xy_a (xy_a A 73 t_items) 75 t_likes) 66 t_lines) 67 t_numbers) 71 t_sorts) 72 t_values) L S) else none)) (fun K => rfl) ?_
        obtain ⟨hg1277, h⟩ := xn_if h
        refine xe_pos hg1277 (xe_k ?_)
        refine xe_seg ok 6 (G := (fun K => xr_back K 82 xm_i82 xm_I82 0 0 192 [(0, .ref 59), (1, .int v1), (2, .int v2), (3, .int v3), (4, .int v4)] [.ref 77, .int (t_likes q1276.toNatClampNeg)] 78 true (K (66, xm_i66, xm_I66, 0, 0, 0, [(0, .ref 59), (1, .int v2), (2, .int v4)], [], xw_W (xy_a (xy_a (xy_a (xy_a (xy_a (xy_a A 73 t_items) 75 t_likes) 66 t_lines) 67 t_numbers) 71 t_sorts) 72 t_values) L S)))) (fun K => rfl) ?_
        obtain ⟨q1278, hq1278, h⟩ := Option.bind_eq_some_iff.mp h
        have heq1278 := xh_rf_referred_57 (l := l) (g := g) ok (xy_a (xy_a (xy_a (xy_a (xy_a (xy_a A 73 t_items) 75 t_likes) 66 t_lines) 67 t_numbers) 71 t_sorts) 72 t_values) L S t_items t_lines t_numbers t_sorts t_values n v2 v4 _ hq1278
        refine xe_call1 (ws' := xw_W (xy_a (xy_a (xy_a (xy_a (xy_a (xy_a A 73 t_items) 75 t_likes) 66 t_lines) 67 t_numbers) 71 t_sorts) 72 t_values) L S) (by decide) heq1278 (Or.inl rfl) ?_
        refine xe_seg ok 1 (G := (fun K => if xr_in q1278 40 = true then K (82, xm_i82, xm_I82, 0, 0, 196, [(0, .ref 59), (1, .int v1), (2, .int v2), (3, .int v3), (4, .int v4)], [.int (t_likes q1278.toNatClampNeg), .int (t_likes q1276.toNatClampNeg)], xw_W (xy_a (xy_a (xy_a (xy_a (xy_a (xy_a A 73 t_items) 75 t_likes) 66 t_lines) 67 t_numbers) 71 t_sorts) 72 t_values) L S) else none)) (fun K => rfl) ?_
        obtain ⟨hg1279, h⟩ := xn_if h
        refine xe_pos hg1279 (xe_k ?_)
        refine xe_seg ok 1 (G := (fun K => if (t_likes q1276.toNatClampNeg) = (t_likes q1278.toNatClampNeg) then K (82, xm_i82, xm_I82, 0, 0, 199, [(0, .ref 59), (1, .int v1), (2, .int v2), (3, .int v3), (4, .int v4)], [], xw_W (xy_a (xy_a (xy_a (xy_a (xy_a (xy_a A 73 t_items) 75 t_likes) 66 t_lines) 67 t_numbers) 71 t_sorts) 72 t_values) L S) else K (82, xm_i82, xm_I82, 0, 0, 203, [(0, .ref 59), (1, .int v1), (2, .int v2), (3, .int v3), (4, .int v4)], [], xw_W (xy_a (xy_a (xy_a (xy_a (xy_a (xy_a A 73 t_items) 75 t_likes) 66 t_lines) 67 t_numbers) 71 t_sorts) 72 t_values) L S))) (fun K => rfl) ?_
        rcases xb_if h with ⟨hc1280, h⟩ | ⟨hc1280, h⟩
        · refine xe_pos hc1280 (xe_k ?_)
          refine xe_seg ok 2 (G := (fun K => K (82, xm_i82, xm_I82, 0, 0, 204, [(0, .ref 59), (1, .int v1), (2, .int v2), (3, .int v3), (4, .int v4)], [.int ((1 : Int32))], xw_W (xy_a (xy_a (xy_a (xy_a (xy_a (xy_a A 73 t_items) 75 t_likes) 66 t_lines) 67 t_numbers) 71 t_sorts) 72 t_values) L S))) (fun K => rfl) ?_
          refine xe_k ?_
          refine xe_sub [true, true, true, false, true] (lv' := [(0, .ref 59), (1, .int v1), (2, .int v2), (4, .int v4)]) rfl ?_
          exact xh_rf_isArgumentAlike_57_204 ok A L S t_items t_likes t_lines t_numbers t_sorts t_values hk157 n v1 v2 v4 ((1 : Int32)) _ h
        · refine xe_neg hc1280 (xe_k ?_)
          refine xe_sub [true, true, true, false, true] (lv' := [(0, .ref 59), (1, .int v1), (2, .int v2), (4, .int v4)]) rfl ?_
          exact xh_rf_isArgumentAlike_57_203 ok A L S t_items t_likes t_lines t_numbers t_sorts t_values hk157 n v1 v2 v4 _ h
    · refine xe_neg hc1274 (xe_k ?_)
      refine xe_seg ok 2 (G := (fun _ => if fits .boolean (.int v3) = true then some (.inl (some (.int v3)), xw_W (xy_a (xy_a (xy_a (xy_a (xy_a (xy_a A 73 t_items) 75 t_likes) 66 t_lines) 67 t_numbers) 71 t_sorts) 72 t_values) L S) else none)) (fun K => rfl) ?_
      obtain ⟨hg1281, h⟩ := xn_if h
      obtain rfl := Option.some.inj h
      exact xe_pos (A := fun _ => some (.inl (some (.int v3)), xw_W (xy_a (xy_a (xy_a (xy_a (xy_a (xy_a A 73 t_items) 75 t_likes) 66 t_lines) 67 t_numbers) 71 t_sorts) 72 t_values) L S)) (B := fun _ => none) hg1281 xe_ret
theorem xh_rf_isSame_73_73_38 {l : Launch} {g : xr_G} (ok : xr_OK xm_P) (A : Nat → Nat → Int32) (L : Nat → Nat → Int64) (S : Nat → Nat → Int32) (p1 : (Nat → Int32)) (p3 : (Nat → Int32)) (n_p1 : Nat) (n_p3 : Nat) {k6 : Int32 → Int32 → Int32 → Int32 → Int32 → Option (Int32)} (hk6 : ∀ (v1 : Int32) (v3 : Int32) (v4 : Int32) (v5 : Int32) (v6 : Int32) (r : (Int32)), k6 v1 v3 v4 v5 v6 = some r → xV xm_P l g (47, xm_i47, xm_I47, 0, 0, 6, [(0, .ref 75), (1, .int v1), (2, .ref 75), (3, .int v3), (4, .int v4), (5, .int v5), (6, .int v6)], [], xw_W (xy_a (xy_a A 73 p1) 73 p3) L S) (.inl (some (.int r)), xw_W (xy_a (xy_a A 73 p1) 73 p3) L S)) (n : Nat) : ∀ (v1 : Int32) (v3 : Int32) (v4 : Int32) (v6 : Int32) (s0 : Int32) (r : (Int32)), xf_rf_isSame_38 p1 p3 n_p1 n_p3 k6 n v1 v3 v4 v6 s0 = some r → xV xm_P l g (47, xm_i47, xm_I47, 0, 0, 38, [(0, .ref 75), (1, .int v1), (2, .ref 75), (3, .int v3), (4, .int v4), (6, .int v6)], [.int s0], xw_W (xy_a (xy_a A 73 p1) 73 p3) L S) (.inl (some (.int r)), xw_W (xy_a (xy_a A 73 p1) 73 p3) L S) := by
  intro v1 v3 v4 v6 s0 r h
  unfold xf_rf_isSame_38 at h
  refine xe_seg ok 3 (G := (fun K => K (47, xm_i47, xm_I47, 0, 0, 6, [(0, .ref 75), (1, .int v1), (2, .ref 75), (3, .int v3), (4, .int v4), (5, .int s0), (6, .int (v6 + (1 : Int32)))], [], xw_W (xy_a (xy_a A 73 p1) 73 p3) L S))) (fun K => rfl) ?_
  refine xe_k ?_
  refine xe_sub [true, true, true, true, true, true, true] (lv' := [(0, .ref 75), (1, .int v1), (2, .ref 75), (3, .int v3), (4, .int v4), (5, .int s0), (6, .int (v6 + (1 : Int32)))]) rfl ?_
  exact hk6 v1 v3 v4 s0 (v6 + (1 : Int32)) _ h
theorem xh_rf_isSame_73_73_37 {l : Launch} {g : xr_G} (ok : xr_OK xm_P) (A : Nat → Nat → Int32) (L : Nat → Nat → Int64) (S : Nat → Nat → Int32) (p1 : (Nat → Int32)) (p3 : (Nat → Int32)) (n_p1 : Nat) (n_p3 : Nat) {k6 : Int32 → Int32 → Int32 → Int32 → Int32 → Option (Int32)} (hk6 : ∀ (v1 : Int32) (v3 : Int32) (v4 : Int32) (v5 : Int32) (v6 : Int32) (r : (Int32)), k6 v1 v3 v4 v5 v6 = some r → xV xm_P l g (47, xm_i47, xm_I47, 0, 0, 6, [(0, .ref 75), (1, .int v1), (2, .ref 75), (3, .int v3), (4, .int v4), (5, .int v5), (6, .int v6)], [], xw_W (xy_a (xy_a A 73 p1) 73 p3) L S) (.inl (some (.int r)), xw_W (xy_a (xy_a A 73 p1) 73 p3) L S)) (n : Nat) : ∀ (v1 : Int32) (v3 : Int32) (v4 : Int32) (v6 : Int32) (r : (Int32)), xf_rf_isSame_37 p1 p3 n_p1 n_p3 k6 n v1 v3 v4 v6 = some r → xV xm_P l g (47, xm_i47, xm_I47, 0, 0, 37, [(0, .ref 75), (1, .int v1), (2, .ref 75), (3, .int v3), (4, .int v4), (6, .int v6)], [], xw_W (xy_a (xy_a A 73 p1) 73 p3) L S) (.inl (some (.int r)), xw_W (xy_a (xy_a A 73 p1) 73 p3) L S) := by
  intro v1 v3 v4 v6 r h
  unfold xf_rf_isSame_37 at h
  refine xe_seg ok 1 (G := (fun K => K (47, xm_i47, xm_I47, 0, 0, 38, [(0, .ref 75), (1, .int v1), (2, .ref 75), (3, .int v3), (4, .int v4), (6, .int v6)], [.int ((0 : Int32))], xw_W (xy_a (xy_a A 73 p1) 73 p3) L S))) (fun K => rfl) ?_
  refine xe_k ?_
  refine xe_sub [true, true, true, true, true, true] (lv' := [(0, .ref 75), (1, .int v1), (2, .ref 75), (3, .int v3), (4, .int v4), (6, .int v6)]) rfl ?_
  exact xh_rf_isSame_73_73_38 ok A L S p1 p3 n_p1 n_p3 hk6 n v1 v3 v4 v6 ((0 : Int32)) _ h
theorem xh_rf_isSame_73_73_6 {l : Launch} {g : xr_G} (ok : xr_OK xm_P) (A : Nat → Nat → Int32) (L : Nat → Nat → Int64) (S : Nat → Nat → Int32) (p1 : (Nat → Int32)) (p3 : (Nat → Int32)) (n_p1 : Nat) (n_p3 : Nat) (n : Nat) : ∀ (N : Nat) (v1 : Int32) (v3 : Int32) (v4 : Int32) (v5 : Int32) (v6 : Int32) (r : (Int32)), xf_rf_isSame_6 p1 p3 n_p1 n_p3 n N v1 v3 v4 v5 v6 = some r → xV xm_P l g (47, xm_i47, xm_I47, 0, 0, 6, [(0, .ref 75), (1, .int v1), (2, .ref 75), (3, .int v3), (4, .int v4), (5, .int v5), (6, .int v6)], [], xw_W (xy_a (xy_a A 73 p1) 73 p3) L S) (.inl (some (.int r)), xw_W (xy_a (xy_a A 73 p1) 73 p3) L S) := by
  intro N
  induction N with
  | zero => intro v1 v3 v4 v5 v6 r h; cases h
  | succ N hk6 =>
    intro v1 v3 v4 v5 v6 r h
    refine xe_seg ok 3 (G := (fun K => if v6 < v4 then K (47, xm_i47, xm_I47, 0, 0, 13, [(0, .ref 75), (1, .int v1), (2, .ref 75), (3, .int v3), (4, .int v4), (5, .int v5), (6, .int v6)], [], xw_W (xy_a (xy_a A 73 p1) 73 p3) L S) else K (47, xm_i47, xm_I47, 0, 0, 46, [(0, .ref 75), (1, .int v1), (2, .ref 75), (3, .int v3), (4, .int v4), (5, .int v5), (6, .int v6)], [], xw_W (xy_a (xy_a A 73 p1) 73 p3) L S))) (fun K => rfl) ?_
    rcases xb_if h with ⟨hc1283, h⟩ | ⟨hc1283, h⟩
    · refine xe_pos hc1283 (xe_k ?_)
      refine xe_seg ok 2 (G := (fun K => if v5 = (0 : Int32) then K (47, xm_i47, xm_I47, 0, 0, 37, [(0, .ref 75), (1, .int v1), (2, .ref 75), (3, .int v3), (4, .int v4), (5, .int v5), (6, .int v6)], [], xw_W (xy_a (xy_a A 73 p1) 73 p3) L S) else K (47, xm_i47, xm_I47, 0, 0, 18, [(0, .ref 75), (1, .int v1), (2, .ref 75), (3, .int v3), (4, .int v4), (5, .int v5), (6, .int v6)], [], xw_W (xy_a (xy_a A 73 p1) 73 p3) L S))) (fun K => rfl) ?_
      rcases xb_if h with ⟨hc1284, h⟩ | ⟨hc1284, h⟩
      · refine xe_pos hc1284 (xe_k ?_)
        refine xe_sub [true, true, true, true, true, false, true] (lv' := [(0, .ref 75), (1, .int v1), (2, .ref 75), (3, .int v3), (4, .int v4), (6, .int v6)]) rfl ?_
        exact xh_rf_isSame_73_73_37 ok A L S p1 p3 n_p1 n_p3 hk6 n v1 v3 v4 v6 _ h
      · refine xe_neg hc1284 (xe_k ?_)
        refine xe_seg ok 5 (G := (fun K => if xr_in (v1 + v6) 19200 = true then K (47, xm_i47, xm_I47, 0, 0, 24, [(0, .ref 75), (1, .int v1), (2, .ref 75), (3, .int v3), (4, .int v4), (5, .int v5), (6, .int v6)], [.int (p1 (v1 + v6).toNatClampNeg)], xw_W (xy_a (xy_a A 73 p1) 73 p3) L S) else none)) (fun K => rfl) ?_
        obtain ⟨hg1285, h⟩ := xn_if h
        refine xe_pos hg1285 (xe_k ?_)
        refine xe_seg ok 5 (G := (fun K => if xr_in (v3 + v6) 19200 = true then K (47, xm_i47, xm_I47, 0, 0, 30, [(0, .ref 75), (1, .int v1), (2, .ref 75), (3, .int v3), (4, .int v4), (5, .int v5), (6, .int v6)], [.int (p3 (v3 + v6).toNatClampNeg), .int (p1 (v1 + v6).toNatClampNeg)], xw_W (xy_a (xy_a A 73 p1) 73 p3) L S) else none)) (fun K => rfl) ?_
        obtain ⟨hg1286, h⟩ := xn_if h
        refine xe_pos hg1286 (xe_k ?_)
        refine xe_seg ok 1 (G := (fun K => if (p1 (v1 + v6).toNatClampNeg) = (p3 (v3 + v6).toNatClampNeg) then K (47, xm_i47, xm_I47, 0, 0, 33, [(0, .ref 75), (1, .int v1), (2, .ref 75), (3, .int v3), (4, .int v4), (5, .int v5), (6, .int v6)], [], xw_W (xy_a (xy_a A 73 p1) 73 p3) L S) else K (47, xm_i47, xm_I47, 0, 0, 37, [(0, .ref 75), (1, .int v1), (2, .ref 75), (3, .int v3), (4, .int v4), (5, .int v5), (6, .int v6)], [], xw_W (xy_a (xy_a A 73 p1) 73 p3) L S))) (fun K => rfl) ?_
        rcases xb_if h with ⟨hc1287, h⟩ | ⟨hc1287, h⟩
        · refine xe_pos hc1287 (xe_k ?_)
          refine xe_seg ok 2 (G := (fun K => K (47, xm_i47, xm_I47, 0, 0, 38, [(0, .ref 75), (1, .int v1), (2, .ref 75), (3, .int v3), (4, .int v4), (5, .int v5), (6, .int v6)], [.int ((1 : Int32))], xw_W (xy_a (xy_a A 73 p1) 73 p3) L S))) (fun K => rfl) ?_
          refine xe_k ?_
          refine xe_sub [true, true, true, true, true, false, true] (lv' := [(0, .ref 75), (1, .int v1), (2, .ref 75), (3, .int v3), (4, .int v4), (6, .int v6)]) rfl ?_
          exact xh_rf_isSame_73_73_38 ok A L S p1 p3 n_p1 n_p3 hk6 n v1 v3 v4 v6 ((1 : Int32)) _ h
        · refine xe_neg hc1287 (xe_k ?_)
          refine xe_sub [true, true, true, true, true, false, true] (lv' := [(0, .ref 75), (1, .int v1), (2, .ref 75), (3, .int v3), (4, .int v4), (6, .int v6)]) rfl ?_
          exact xh_rf_isSame_73_73_37 ok A L S p1 p3 n_p1 n_p3 hk6 n v1 v3 v4 v6 _ h
    · refine xe_neg hc1283 (xe_k ?_)
      refine xe_seg ok 2 (G := (fun _ => if fits .boolean (.int v5) = true then some (.inl (some (.int v5)), xw_W (xy_a (xy_a A 73 p1) 73 p3) L S) else none)) (fun K => rfl) ?_
      obtain ⟨hg1288, h⟩ := xn_if h
      obtain rfl := Option.some.inj h
      exact xe_pos (A := fun _ => some (.inl (some (.int v5)), xw_W (xy_a (xy_a A 73 p1) 73 p3) L S)) (B := fun _ => none) hg1288 xe_ret
theorem xh_rf_isSame_73_73 {l : Launch} {g : xr_G} (ok : xr_OK xm_P) (A : Nat → Nat → Int32) (L : Nat → Nat → Int64) (S : Nat → Nat → Int32) (p1 : (Nat → Int32)) (p3 : (Nat → Int32)) (n_p1 : Nat) (n_p3 : Nat) (n : Nat) : ∀ (a2 : Int32) (a4 : Int32) (a5 : Int32) (r : (Int32)), xf_rf_isSame p1 p3 n_p1 n_p3 n a2 a4 a5 = some r → xV xm_P l g (47, xm_i47, xm_I47, 0, 0, 0, [(0, .ref 75), (1, .int a2), (2, .ref 75), (3, .int a4), (4, .int a5)], [], xw_W (xy_a (xy_a A 73 p1) 73 p3) L S) (.inl (some (.int r)), xw_W (xy_a (xy_a A 73 p1) 73 p3) L S) := by
  intro a2 a4 a5 r h
  unfold xf_rf_isSame at h
  refine xe_seg ok 4 (G := (fun K => K (47, xm_i47, xm_I47, 0, 0, 6, [(0, .ref 75), (1, .int a2), (2, .ref 75), (3, .int a4), (4, .int a5), (5, .int ((1 : Int32))), (6, .int ((0 : Int32)))], [], xw_W (xy_a (xy_a A 73 p1) 73 p3) L S))) (fun K => rfl) ?_
  refine xe_k ?_
  refine xe_sub [true, true, true, true, true, true, true] (lv' := [(0, .ref 75), (1, .int a2), (2, .ref 75), (3, .int a4), (4, .int a5), (5, .int ((1 : Int32))), (6, .int ((0 : Int32)))]) rfl ?_
  exact xh_rf_isSame_73_73_6 ok A L S p1 p3 n_p1 n_p3 n n a2 a4 a5 ((1 : Int32)) ((0 : Int32)) _ h
theorem xh_rf_isArgumentAlike_57 {l : Launch} {g : xr_G} (ok : xr_OK xm_P) (A : Nat → Nat → Int32) (L : Nat → Nat → Int64) (S : Nat → Nat → Int32) (t_items : (Nat → Int32)) (t_likes : (Nat → Int32)) (t_lines : (Nat → Int32)) (t_numbers : (Nat → Int32)) (t_sorts : (Nat → Int32)) (t_values : (Nat → Int32)) (n : Nat) : ∀ (a1 : Int32) (a2 : Int32) (r : (Int32)), xf_rf_isArgumentAlike t_items t_likes t_lines t_numbers t_sorts t_values n a1 a2 = some r → xV xm_P l g (82, xm_i82, xm_I82, 0, 0, 0, [(0, .ref 59), (1, .int a1), (2, .int a2)], [], xw_W (xy_a (xy_a (xy_a (xy_a (xy_a (xy_a A 73 t_items) 75 t_likes) 66 t_lines) 67 t_numbers) 71 t_sorts) 72 t_values) L S) (.inl (some (.int r)), xw_W (xy_a (xy_a (xy_a (xy_a (xy_a (xy_a A 73 t_items) 75 t_likes) 66 t_lines) 67 t_numbers) 71 t_sorts) 72 t_values) L S) := by
  intro a1 a2 r h
  unfold xf_rf_isArgumentAlike at h
  refine xe_seg ok 4 (G := (fun K => if xr_in a1 960 = true then K (82, xm_i82, xm_I82, 0, 0, 6, [(0, .ref 59), (1, .int a1), (2, .int a2)], [.int (t_sorts a1.toNatClampNeg)], xw_W (xy_a (xy_a (xy_a (xy_a (xy_a (xy_a A 73 t_items) 75 t_likes) 66 t_lines) 67 t_numbers) 71 t_sorts) 72 t_values) L S) else none)) (fun K => rfl) ?_
  obtain ⟨hg1249, h⟩ := xn_if h
  refine xe_pos hg1249 (xe_k ?_)
  refine xe_seg ok 4 (G := (fun K => if xr_in a2 960 = true then K (82, xm_i82, xm_I82, 0, 0, 12, [(0, .ref 59), (1, .int a1), (2, .int a2)], [.int (t_sorts a2.toNatClampNeg), .int (t_sorts a1.toNatClampNeg)], xw_W (xy_a (xy_a (xy_a (xy_a (xy_a (xy_a A 73 t_items) 75 t_likes) 66 t_lines) 67 t_numbers) 71 t_sorts) 72 t_values) L S) else none)) (fun K => rfl) ?_
  obtain ⟨hg1250, h⟩ := xn_if h
  refine xe_pos hg1250 (xe_k ?_)
  refine xe_seg ok 1 (G := (fun K => if (t_sorts a1.toNatClampNeg) = (t_sorts a2.toNatClampNeg) then K (82, xm_i82, xm_I82, 0, 0, 17, [(0, .ref 59), (1, .int a1), (2, .int a2)], [], xw_W (xy_a (xy_a (xy_a (xy_a (xy_a (xy_a A 73 t_items) 75 t_likes) 66 t_lines) 67 t_numbers) 71 t_sorts) 72 t_values) L S) else K (82, xm_i82, xm_I82, 0, 0, 15, [(0, .ref 59), (1, .int a1), (2, .int a2)], [], xw_W (xy_a (xy_a (xy_a (xy_a (xy_a (xy_a A 73 t_items) 75 t_likes) 66 t_lines) 67 t_numbers) 71 t_sorts) 72 t_values) L S))) (fun K => rfl) ?_
  rcases xb_if h with ⟨hc1251, h⟩ | ⟨hc1251, h⟩
  · refine xe_pos hc1251 (xe_k ?_)
    refine xe_seg ok 4 (G := (fun K => if xr_in a1 960 = true then K (82, xm_i82, xm_I82, 0, 0, 23, [(0, .ref 59), (1, .int a1), (2, .int a2)], [.int (t_sorts a1.toNatClampNeg)], xw_W (xy_a (xy_a (xy_a (xy_a (xy_a (xy_a A 73 t_items) 75 t_likes) 66 t_lines) 67 t_numbers) 71 t_sorts) 72 t_values) L S) else none)) (fun K => rfl) ?_
    obtain ⟨hg1252, h⟩ := xn_if h
    refine xe_pos hg1252 (xe_k ?_)
    refine xe_seg ok 1 (G := (fun K => if (t_sorts a1.toNatClampNeg) = (0 : Int32) then K (82, xm_i82, xm_I82, 0, 0, 37, [(0, .ref 59), (1, .int a1), (2, .int a2)], [], xw_W (xy_a (xy_a (xy_a (xy_a (xy_a (xy_a A 73 t_items) 75 t_likes) 66 t_lines) 67 t_numbers) 71 t_sorts) 72 t_values) L S) else K (82, xm_i82, xm_I82, 0, 0, 26, [(0, .ref 59), (1, .int a1), (2, .int a2)], [], xw_W (xy_a (xy_a (xy_a (xy_a (xy_a (xy_a A 73 t_items) 75 t_likes) 66 t_lines) 67 t_numbers) 71 t_sorts) 72 t_values) L S))) (fun K => rfl) ?_
    rcases xb_if h with ⟨hc1253, h⟩ | ⟨hc1253, h⟩
    · refine xe_pos hc1253 (xe_k ?_)
      refine xe_sub [true, true, true] (lv' := [(0, .ref 59), (1, .int a1), (2, .int a2)]) rfl ?_
      exact xh_rf_isArgumentAlike_57_37 ok A L S t_items t_likes t_lines t_numbers t_sorts t_values n a1 a2 _ h
    · refine xe_neg hc1253 (xe_k ?_)
      refine xe_seg ok 4 (G := (fun K => if xr_in a1 960 = true then K (82, xm_i82, xm_I82, 0, 0, 32, [(0, .ref 59), (1, .int a1), (2, .int a2)], [.int (t_sorts a1.toNatClampNeg)], xw_W (xy_a (xy_a (xy_a (xy_a (xy_a (xy_a A 73 t_items) 75 t_likes) 66 t_lines) 67 t_numbers) 71 t_sorts) 72 t_values) L S) else none)) (fun K => rfl) ?_
      obtain ⟨hg1258, h⟩ := xn_if h
      refine xe_pos hg1258 (xe_k ?_)
      refine xe_seg ok 2 (G := (fun K => if (t_sorts a1.toNatClampNeg) = ((6 : Int32)) then K (82, xm_i82, xm_I82, 0, 0, 37, [(0, .ref 59), (1, .int a1), (2, .int a2)], [], xw_W (xy_a (xy_a (xy_a (xy_a (xy_a (xy_a A 73 t_items) 75 t_likes) 66 t_lines) 67 t_numbers) 71 t_sorts) 72 t_values) L S) else K (82, xm_i82, xm_I82, 0, 0, 58, [(0, .ref 59), (1, .int a1), (2, .int a2)], [], xw_W (xy_a (xy_a (xy_a (xy_a (xy_a (xy_a A 73 t_items) 75 t_likes) 66 t_lines) 67 t_numbers) 71 t_sorts) 72 t_values) L S))) (fun K => rfl) ?_
      rcases xb_if h with ⟨hc1259, h⟩ | ⟨hc1259, h⟩
      · refine xe_pos hc1259 (xe_k ?_)
        refine xe_sub [true, true, true] (lv' := [(0, .ref 59), (1, .int a1), (2, .int a2)]) rfl ?_
        exact xh_rf_isArgumentAlike_57_37 ok A L S t_items t_likes t_lines t_numbers t_sorts t_values n a1 a2 _ h
      · refine xe_neg hc1259 (xe_k ?_)
        refine xe_seg ok 4 (G := (fun K => if xr_in a1 960 = true then K (82, xm_i82, xm_I82, 0, 0, 64, [(0, .ref 59), (1, .int a1), (2, .int a2)], [.int (t_sorts a1.toNatClampNeg)], xw_W (xy_a (xy_a (xy_a (xy_a (xy_a (xy_a A 73 t_items) 75 t_likes) 66 t_lines) 67 t_numbers) 71 t_sorts) 72 t_values) L S) else none)) (fun K => rfl) ?_
        obtain ⟨hg1260, h⟩ := xn_if h
        refine xe_pos hg1260 (xe_k ?_)
        refine xe_seg ok 2 (G := (fun K => if (t_sorts a1.toNatClampNeg) = ((2 : Int32)) then K (82, xm_i82, xm_I82, 0, 0, 68, [(0, .ref 59), (1, .int a1), (2, .int a2)], [], xw_W (xy_a (xy_a (xy_a (xy_a (xy_a (xy_a A 73 t_items) 75 t_likes) 66 t_lines) 67 t_numbers) 71 t_sorts) 72 t_values) L S) else K (82, xm_i82, xm_I82, 0, 0, 99, [(0, .ref 59), (1, .int a1), (2, .int a2)], [], xw_W (xy_a (xy_a (xy_a (xy_a (xy_a (xy_a A 73 t_items) 75 t_likes) 66 t_lines) 67 t_numbers) 71 t_sorts) 72 t_values) L S))) (fun K => rfl) ?_
        rcases xb_if h with ⟨hc1261, h⟩ | ⟨hc1261, h⟩
        · refine xe_pos hc1261 (xe_k ?_)
          refine xe_seg ok 6 (G := (fun K => xr_back K 82 xm_i82 xm_I82 0 0 75 [(0, .ref 59), (1, .int a1), (2, .int a2)] [.ref 77] 78 true (K (66, xm_i66, xm_I66, 0, 0, 0, [(0, .ref 59), (1, .int a1), (2, .int ((0 : Int32)))], [], xw_W (xy_a (xy_a (xy_a (xy_a (xy_a (xy_a A 73 t_items) 75 t_likes) 66 t_lines) 67 t_numbers) 71 t_sorts) 72 t_values) L S)))) (fun K => rfl) ?_
          obtain ⟨q1262, hq1262, h⟩ := Option.bind_eq_some_iff.mp h
          have heq1262 := xh_rf_referred_57 (l := l) (g := g) ok (xy_a (xy_a (xy_a (xy_a (xy_a (xy_a A 73 t_items) 75 t_likes) 66 t_lines) 67 t_numbers) 71 t_sorts) 72 t_values) L S t_items t_lines t_numbers t_sorts t_values n a1 ((0 : Int32)) _ hq1262
          refine xe_call1 (ws' := xw_W (xy_a (xy_a (xy_a (xy_a (xy_a (xy_a A 73 t_items) 75 t_likes) 66 t_lines) 67 t_numbers) 71 t_sorts) 72 t_values) L S) (by decide) heq1262 (Or.inl rfl) ?_
          refine xe_seg ok 1 (G := (fun K => if xr_in q1262 40 = true then K (82, xm_i82, xm_I82, 0, 0, 79, [(0, .ref 59), (1, .int a1), (2, .int a2)], [.int (t_likes q1262.toNatClampNeg)], xw_W (xy_a (xy_a (xy_a (xy_a (xy_a (xy_a A 73 t_items) 75 t_likes) 66 t_lines) 67 t_numbers) 71 t_sorts) 72 t_values) L S) else none)) (fun K => rfl) ?_
          obtain ⟨hg1263, h⟩ := xn_if h
          refine xe_pos hg1263 (xe_k ?_)
          refine xe_seg ok 6 (G := (fun K => xr_back K 82 xm_i82 xm_I82 0 0 86 [(0, .ref 59), (1, .int a1), (2, .int a2)] [.ref 77, .int (t_likes q1262.toNatClampNeg)] 78 true (K (66, xm_i66, xm_I66, 0, 0, 0, [(0, .ref 59), (1, .int a2), (2, .int ((0 : Int32)))], [], xw_W (xy_a (xy_a (xy_a (xy_a (xy_a (xy_a A 73 t_items) 75 t_likes) 66 t_lines) 67 t_numbers) 71 t_sorts) 72 t_values) L S)))) (fun K => rfl) ?_
          obtain ⟨q1264, hq1264, h⟩ := Option.bind_eq_some_iff.mp h
          have heq1264 := xh_rf_referred_57 (l := l) (g := g) ok (xy_a (xy_a (xy_a (xy_a (xy_a (xy_a A 73 t_items) 75 t_likes) 66 t_lines) 67 t_numbers) 71 t_sorts) 72 t_values) L S t_items t_lines t_numbers t_sorts t_values n a2 ((0 : Int32)) _ hq1264
          refine xe_call1 (ws' := xw_W (xy_a (xy_a (xy_a (xy_a (xy_a (xy_a A 73 t_items) 75 t_likes) 66 t_lines) 67 t_numbers) 71 t_sorts) 72 t_values) L S) (by decide) heq1264 (Or.inl rfl) ?_
          refine xe_seg ok 1 (G := (fun K => if xr_in q1264 40 = true then K (82, xm_i82, xm_I82, 0, 0, 90, [(0, .ref 59), (1, .int a1), (2, .int a2)], [.int (t_likes q1264.toNatClampNeg), .int (t_likes q1262.toNatClampNeg)], xw_W (xy_a (xy_a (xy_a (xy_a (xy_a (xy_a A 73 t_items) 75 t_likes) 66 t_lines) 67 t_numbers) 71 t_sorts) 72 t_values) L S) else none)) (fun K => rfl) ?_
          obtain ⟨hg1265, h⟩ := xn_if h
          refine xe_pos hg1265 (xe_k ?_)
          refine xe_seg ok 1 (G := (fun K => if (t_likes q1262.toNatClampNeg) = (t_likes q1264.toNatClampNeg) then K (82, xm_i82, xm_I82, 0, 0, 93, [(0, .ref 59), (1, .int a1), (2, .int a2)], [], xw_W (xy_a (xy_a (xy_a (xy_a (xy_a (xy_a A 73 t_items) 75 t_likes) 66 t_lines) 67 t_numbers) 71 t_sorts) 72 t_values) L S) else K (82, xm_i82, xm_I82, 0, 0, 97, [(0, .ref 59), (1, .int a1), (2, .int a2)], [], xw_W (xy_a (xy_a (xy_a (xy_a (xy_a (xy_a A 73 t_items) 75 t_likes) 66 t_lines) 67 t_numbers) 71 t_sorts) 72 t_values) L S))) (fun K => rfl) ?_
          rcases xb_if h with ⟨hc1266, h⟩ | ⟨hc1266, h⟩
          · refine xe_pos hc1266 (xe_k ?_)
            refine xe_seg ok 2 (G := (fun K => K (82, xm_i82, xm_I82, 0, 0, 98, [(0, .ref 59), (1, .int a1), (2, .int a2)], [.int ((1 : Int32))], xw_W (xy_a (xy_a (xy_a (xy_a (xy_a (xy_a A 73 t_items) 75 t_likes) 66 t_lines) 67 t_numbers) 71 t_sorts) 72 t_values) L S))) (fun K => rfl) ?_
            refine xe_k ?_
            refine xe_sub [false, false, false] (lv' := []) rfl ?_
            exact xh_rf_isArgumentAlike_57_98 ok A L S t_items t_likes t_lines t_numbers t_sorts t_values n ((1 : Int32)) _ h
          · refine xe_neg hc1266 (xe_k ?_)
            refine xe_seg ok 1 (G := (fun K => K (82, xm_i82, xm_I82, 0, 0, 98, [(0, .ref 59), (1, .int a1), (2, .int a2)], [.int ((0 : Int32))], xw_W (xy_a (xy_a (xy_a (xy_a (xy_a (xy_a A 73 t_items) 75 t_likes) 66 t_lines) 67 t_numbers) 71 t_sorts) 72 t_values) L S))) (fun K => rfl) ?_
            refine xe_k ?_
            refine xe_sub [false, false, false] (lv' := []) rfl ?_
            exact xh_rf_isArgumentAlike_57_98 ok A L S t_items t_likes t_lines t_numbers t_sorts t_values n ((0 : Int32)) _ h
        · refine xe_neg hc1261 (xe_k ?_)
          refine xe_seg ok 4 (G := (fun K => if xr_in a1 960 = true then K (82, xm_i82, xm_I82, 0, 0, 105, [(0, .ref 59), (1, .int a1), (2, .int a2)], [.int (t_values a1.toNatClampNeg)], xw_W (xy_a (xy_a (xy_a (xy_a (xy_a (xy_a A 73 t_items) 75 t_likes) 66 t_lines) 67 t_numbers) 71 t_sorts) 72 t_values) L S) else none)) (fun K => rfl) ?_
          obtain ⟨hg1268, h⟩ := xn_if h
          refine xe_pos hg1268 (xe_k ?_)
          refine xe_seg ok 4 (G := (fun K => if xr_in a2 960 = true then K (82, xm_i82, xm_I82, 0, 0, 111, [(0, .ref 59), (1, .int a1), (2, .int a2)], [.int (t_values a2.toNatClampNeg), .int (t_values a1.toNatClampNeg)], xw_W (xy_a (xy_a (xy_a (xy_a (xy_a (xy_a A 73 t_items) 75 t_likes) 66 t_lines) 67 t_numbers) 71 t_sorts) 72 t_values) L S) else none)) (fun K => rfl) ?_
          obtain ⟨hg1269, h⟩ := xn_if h
          refine xe_pos hg1269 (xe_k ?_)
          refine xe_seg ok 1 (G := (fun K => if (t_values a1.toNatClampNeg) = (t_values a2.toNatClampNeg) then K (82, xm_i82, xm_I82, 0, 0, 116, [(0, .ref 59), (1, .int a1), (2, .int a2)], [], xw_W (xy_a (xy_a (xy_a (xy_a (xy_a (xy_a A 73 t_items) 75 t_likes) 66 t_lines) 67 t_numbers) 71 t_sorts) 72 t_values) L S) else K (82, xm_i82, xm_I82, 0, 0, 114, [(0, .ref 59), (1, .int a1), (2, .int a2)], [], xw_W (xy_a (xy_a (xy_a (xy_a (xy_a (xy_a A 73 t_items) 75 t_likes) 66 t_lines) 67 t_numbers) 71 t_sorts) 72 t_values) L S))) (fun K => rfl) ?_
          rcases xb_if h with ⟨hc1270, h⟩ | ⟨hc1270, h⟩
          · refine xe_pos hc1270 (xe_k ?_)
            refine xe_seg ok 4 (G := (fun K => if xr_in a1 960 = true then K (82, xm_i82, xm_I82, 0, 0, 122, [(0, .ref 59), (1, .int a1), (2, .int a2)], [.int (t_sorts a1.toNatClampNeg)], xw_W (xy_a (xy_a (xy_a (xy_a (xy_a (xy_a A 73 t_items) 75 t_likes) 66 t_lines) 67 t_numbers) 71 t_sorts) 72 t_values) L S) else none)) (fun K => rfl) ?_
            obtain ⟨hg1271, h⟩ := xn_if h
            refine xe_pos hg1271 (xe_k ?_)
            refine xe_seg ok 2 (G := (fun K => if (t_sorts a1.toNatClampNeg) = ((4 : Int32)) then K (82, xm_i82, xm_I82, 0, 0, 152, [(0, .ref 59), (1, .int a1), (2, .int a2)], [], xw_W (xy_a (xy_a (xy_a (xy_a (xy_a (xy_a A 73 t_items) 75 t_likes) 66 t_lines) 67 t_numbers) 71 t_sorts) 72 t_values) L S) else K (82, xm_i82, xm_I82, 0, 0, 126, [(0, .ref 59), (1, .int a1), (2, .int a2)], [], xw_W (xy_a (xy_a (xy_a (xy_a (xy_a (xy_a A 73 t_items) 75 t_likes) 66 t_lines) 67 t_numbers) 71 t_sorts) 72 t_values) L S))) (fun K => rfl) ?_
            rcases xb_if h with ⟨hc1272, h⟩ | ⟨hc1272, h⟩
            · refine xe_pos hc1272 (xe_k ?_)
              refine xe_seg ok 4 (G := (fun K => K (82, xm_i82, xm_I82, 0, 0, 157, [(0, .ref 59), (1, .int a1), (2, .int a2), (3, .int ((1 : Int32))), (4, .int ((0 : Int32)))], [], xw_W (xy_a (xy_a (xy_a (xy_a (xy_a (xy_a A 73 t_items) 75 t_likes) 66 t_lines) 67 t_numbers) 71 t_sorts) 72 t_values) L S))) (fun K => rfl) ?_
              refine xe_k ?_
              refine xe_sub [true, true, true, true, true] (lv' := [(0, .ref 59), (1, .int a1), (2, .int a2), (3, .int ((1 : Int32))), (4, .int ((0 : Int32)))]) rfl ?_
              exact xh_rf_isArgumentAlike_57_157 ok A L S t_items t_likes t_lines t_numbers t_sorts t_values n n a1 a2 ((1 : Int32)) ((0 : Int32)) _ h
            · refine xe_neg hc1272 (xe_k ?_)
              refine xe_seg ok 14 (G := (fun K => if xr_in a1 960 = true then K (82, xm_i82, xm_I82, 0, 0, 148, [(0, .ref 59), (1, .int a1), (2, .int a2)], [.int (t_values a1.toNatClampNeg), .int (((20 : Int32)) * a2), .ref 75, .int (((20 : Int32)) * a1), .ref 75], xw_W (xy_a (xy_a (xy_a (xy_a (xy_a (xy_a A 73 t_items) 75 t_likes) 66 t_lines) 67 t_numbers) 71 t_sorts) 72 t_values) L S) else none)) (fun K => rfl) ?_
              obtain ⟨hg1282, h⟩ := xn_if h
              refine xe_pos hg1282 (xe_k ?_)
              refine xe_seg ok 1 (G := (fun K => xr_back K 82 xm_i82 xm_I82 0 0 148 [(0, .ref 59), (1, .int a1), (2, .int a2)] [] 78 true (K (47, xm_i47, xm_I47, 0, 0, 0, [(0, .ref 75), (1, .int (((20 : Int32)) * a1)), (2, .ref 75), (3, .int (((20 : Int32)) * a2)), (4, .int (t_values a1.toNatClampNeg))], [], xw_W (xy_a (xy_a (xy_a (xy_a (xy_a (xy_a A 73 t_items) 75 t_likes) 66 t_lines) 67 t_numbers) 71 t_sorts) 72 t_values) L S)))) (fun K => rfl) ?_
              obtain ⟨q1289, hq1289, h⟩ := Option.bind_eq_some_iff.mp h
              have heq1289 := xh_rf_isSame_73_73 (l := l) (g := g) ok (xy_a (xy_a (xy_a (xy_a (xy_a (xy_a A 73 t_items) 75 t_likes) 66 t_lines) 67 t_numbers) 71 t_sorts) 72 t_values) L S t_items t_items 19200 19200 n (((20 : Int32)) * a1) (((20 : Int32)) * a2) (t_values a1.toNatClampNeg) _ hq1289
              refine xe_call1 (ws' := xw_W (xy_a (xy_a (xy_a (xy_a (xy_a (xy_a A 73 t_items) 75 t_likes) 66 t_lines) 67 t_numbers) 71 t_sorts) 72 t_values) L S) (by decide) heq1289 (Or.inl rfl) ?_
              refine xe_seg ok 1 (G := (fun _ => if fits .boolean (.int q1289) = true then some (.inl (some (.int q1289)), xw_W (xy_a (xy_a (xy_a (xy_a (xy_a (xy_a A 73 t_items) 75 t_likes) 66 t_lines) 67 t_numbers) 71 t_sorts) 72 t_values) L S) else none)) (fun K => rfl) ?_
              obtain ⟨hg1290, h⟩ := xn_if h
              obtain rfl := Option.some.inj h
              exact xe_pos (A := fun _ => some (.inl (some (.int q1289)), xw_W (xy_a (xy_a (xy_a (xy_a (xy_a (xy_a A 73 t_items) 75 t_likes) 66 t_lines) 67 t_numbers) 71 t_sorts) 72 t_values) L S)) (B := fun _ => none) hg1290 xe_ret
          · refine xe_neg hc1270 (xe_k ?_)
            obtain rfl := Option.some.inj h
            refine xe_seg ok 2 (G := (fun _ => some (.inl (some (.int ((0 : Int32)))), xw_W (xy_a (xy_a (xy_a (xy_a (xy_a (xy_a A 73 t_items) 75 t_likes) 66 t_lines) 67 t_numbers) 71 t_sorts) 72 t_values) L S))) (fun K => rfl) ?_
            exact xe_ret
  · refine xe_neg hc1251 (xe_k ?_)
    obtain rfl := Option.some.inj h
    refine xe_seg ok 2 (G := (fun _ => some (.inl (some (.int ((0 : Int32)))), xw_W (xy_a (xy_a (xy_a (xy_a (xy_a (xy_a A 73 t_items) 75 t_likes) 66 t_lines) 67 t_numbers) 71 t_sorts) 72 t_values) L S))) (fun K => rfl) ?_
    exact xe_ret
theorem xh_rf_isLineAlike_57_67 {l : Launch} {g : xr_G} (ok : xr_OK xm_P) (A : Nat → Nat → Int32) (L : Nat → Nat → Int64) (S : Nat → Nat → Int32) (t_items : (Nat → Int32)) (t_letters : (Nat → Int32)) (t_likes : (Nat → Int32)) (t_lines : (Nat → Int32)) (t_names : (Nat → Int32)) (t_numbers : (Nat → Int32)) (t_parts : (Nat → Int32)) (t_sorts : (Nat → Int32)) (t_values : (Nat → Int32)) (n : Nat) : ∀ (N : Nat) (v1 : Int32) (v2 : Int32) (v3 : Int32) (v4 : Int32) (r : (Int32)), xf_rf_isLineAlike_67 t_items t_letters t_likes t_lines t_names t_numbers t_parts t_sorts t_values n N v1 v2 v3 v4 = some r → xV xm_P l g (83, xm_i83, xm_I83, 0, 0, 67, [(0, .ref 59), (1, .int v1), (2, .int v2), (3, .int v3), (4, .int v4)], [], xw_W (xy_a (xy_a (xy_a (xy_a (xy_a (xy_a (xy_a (xy_a (xy_a A 73 t_items) 68 t_letters) 75 t_likes) 66 t_lines) 69 t_names) 67 t_numbers) 70 t_parts) 71 t_sorts) 72 t_values) L S) (.inl (some (.int r)), xw_W (xy_a (xy_a (xy_a (xy_a (xy_a (xy_a (xy_a (xy_a (xy_a A 73 t_items) 68 t_letters) 75 t_likes) 66 t_lines) 69 t_names) 67 t_numbers) 70 t_parts) 71 t_sorts) 72 t_values) L S) := by
  intro N
  induction N with
  | zero => intro v1 v2 v3 v4 r h; cases h
  | succ N hk67 =>
    intro v1 v2 v3 v4 r h
    refine xe_seg ok 5 (G := (fun K => if xr_in v1 120 = true then K (83, xm_i83, xm_I83, 0, 0, 75, [(0, .ref 59), (1, .int v1), (2, .int v2), (3, .int v3), (4, .int v4)], [.int (t_parts v1.toNatClampNeg), .int v4], xw_W (xy_a (xy_a (xy_a (xy_a (xy_a (xy_a (xy_a (xy_a (xy_a A 73 t_items) 68 t_letters) 75 t_likes) 66 t_lines) 69 t_names) 67 t_numbers) 70 t_parts) 71 t_sorts) 72 t_values) L S) else none)) (fun K => rfl) ?_
    obtain ⟨hg1245, h⟩ := xn_if h
    refine xe_pos hg1245 (xe_k ?_)
    refine xe_seg ok 1 (G := (fun K => if v4 < (t_parts v1.toNatClampNeg) then K (83, xm_i83, xm_I83, 0, 0, 78, [(0, .ref 59), (1, .int v1), (2, .int v2), (3, .int v3), (4, .int v4)], [], xw_W (xy_a (xy_a (xy_a (xy_a (xy_a (xy_a (xy_a (xy_a (xy_a A 73 t_items) 68 t_letters) 75 t_likes) 66 t_lines) 69 t_names) 67 t_numbers) 70 t_parts) 71 t_sorts) 72 t_values) L S) else K (83, xm_i83, xm_I83, 0, 0, 107, [(0, .ref 59), (1, .int v1), (2, .int v2), (3, .int v3), (4, .int v4)], [], xw_W (xy_a (xy_a (xy_a (xy_a (xy_a (xy_a (xy_a (xy_a (xy_a A 73 t_items) 68 t_letters) 75 t_likes) 66 t_lines) 69 t_names) 67 t_numbers) 70 t_parts) 71 t_sorts) 72 t_values) L S))) (fun K => rfl) ?_
    rcases xb_if h with ⟨hc1246, h⟩ | ⟨hc1246, h⟩
    · refine xe_pos hc1246 (xe_k ?_)
      refine xe_seg ok 2 (G := (fun K => if v3 = (0 : Int32) then K (83, xm_i83, xm_I83, 0, 0, 107, [(0, .ref 59), (1, .int v1), (2, .int v2), (3, .int v3), (4, .int v4)], [], xw_W (xy_a (xy_a (xy_a (xy_a (xy_a (xy_a (xy_a (xy_a (xy_a A 73 t_items) 68 t_letters) 75 t_likes) 66 t_lines) 69 t_names) 67 t_numbers) 70 t_parts) 71 t_sorts) 72 t_values) L S) else K (83, xm_i83, xm_I83, 0, 0, 82, [(0, .ref 59), (1, .int v1), (2, .int v2), (3, .int v3), (4, .int v4)], [], xw_W (xy_a (xy_a (xy_a (xy_a (xy_a (xy_a (xy_a (xy_a (xy_a A 73 t_items) 68 t_letters) 75 t_likes) 66 t_lines) 69 t_names) 67 t_numbers) 70 t_parts) 71 t_sorts) 72 t_values) L S))) (fun K => rfl) ?_
      rcases xb_if h with ⟨hc1247, h⟩ | ⟨hc1247, h⟩
      · refine xe_pos hc1247 (xe_k ?_)
        refine xe_sub [false, false, false, true, false] (lv' := [(3, .int v3)]) rfl ?_
        exact xh_rf_isLineAlike_57_107 ok A L S t_items t_letters t_likes t_lines t_names t_numbers t_parts t_sorts t_values n v3 _ h
      · refine xe_neg hc1247 (xe_k ?_)
        refine xe_seg ok 12 (G := (fun K => xr_back K 83 xm_i83 xm_I83 0 0 97 [(0, .ref 59), (1, .int v1), (2, .int v2), (3, .int v3), (4, .int v4)] [] 78 true (K (82, xm_i82, xm_I82, 0, 0, 0, [(0, .ref 59), (1, .int ((((8 : Int32)) * v1) + v4)), (2, .int ((((8 : Int32)) * v2) + v4))], [], xw_W (xy_a (xy_a (xy_a (xy_a (xy_a (xy_a (xy_a (xy_a (xy_a A 73 t_items) 68 t_letters) 75 t_likes) 66 t_lines) 69 t_names) 67 t_numbers) 70 t_parts) 71 t_sorts) 72 t_values) L S)))) (fun K => rfl) ?_
        obtain ⟨q1291, hq1291, h⟩ := Option.bind_eq_some_iff.mp h
        have heq1291 := xh_rf_isArgumentAlike_57 (l := l) (g := g) ok (xy_a (xy_a (xy_a (xy_a (xy_a (xy_a (xy_a (xy_a (xy_a A 73 t_items) 68 t_letters) 75 t_likes) 66 t_lines) 69 t_names) 67 t_numbers) 70 t_parts) 71 t_sorts) 72 t_values) L S t_items t_likes t_lines t_numbers t_sorts t_values n ((((8 : Int32)) * v1) + v4) ((((8 : Int32)) * v2) + v4) _ hq1291
        refine xe_call1 (ws' := xw_W (xy_a (xy_a (xy_a (xy_a (xy_a (xy_a (xy_a (xy_a (xy_a A 73 t_items) 68 t_letters) 75 t_likes) 66 t_lines) 69 t_names) 67 t_numbers) 70 t_parts) 71 t_sorts) 72 t_values) L S) (by decide) heq1291 (Or.inl rfl) ?_
        refine xe_seg ok 3 (G := (fun K => K (83, xm_i83, xm_I83, 0, 0, 67, [(0, .ref 59), (1, .int v1), (2, .int v2), (3, .int q1291), (4, .int (v4 + (1 : Int32)))], [], xw_W (xy_a (xy_a (xy_a (xy_a (xy_a (xy_a (xy_a (xy_a (xy_a A 73 t_items) 68 t_letters) 75 t_likes) 66 t_lines) 69 t_names) 67 t_numbers) 70 t_parts) 71 t_sorts) 72 t_values) L S))) (fun K => rfl) ?_
        refine xe_k ?_
        refine xe_sub [true, true, true, true, true] (lv' := [(0, .ref 59), (1, .int v1), (2, .int v2), (3, .int q1291), (4, .int (v4 + (1 : Int32)))]) rfl ?_
        exact hk67 v1 v2 q1291 (v4 + (1 : Int32)) _ h
    · refine xe_neg hc1246 (xe_k ?_)
      refine xe_sub [false, false, false, true, false] (lv' := [(3, .int v3)]) rfl ?_
      exact xh_rf_isLineAlike_57_107 ok A L S t_items t_letters t_likes t_lines t_names t_numbers t_parts t_sorts t_values n v3 _ h
theorem xh_rf_isLineAlike_57_63 {l : Launch} {g : xr_G} (ok : xr_OK xm_P) (A : Nat → Nat → Int32) (L : Nat → Nat → Int64) (S : Nat → Nat → Int32) (t_items : (Nat → Int32)) (t_letters : (Nat → Int32)) (t_likes : (Nat → Int32)) (t_lines : (Nat → Int32)) (t_names : (Nat → Int32)) (t_numbers : (Nat → Int32)) (t_parts : (Nat → Int32)) (t_sorts : (Nat → Int32)) (t_values : (Nat → Int32)) (n : Nat) : ∀ (v1 : Int32) (v2 : Int32) (s0 : Int32) (r : (Int32)), xf_rf_isLineAlike_63 t_items t_letters t_likes t_lines t_names t_numbers t_parts t_sorts t_values n v1 v2 s0 = some r → xV xm_P l g (83, xm_i83, xm_I83, 0, 0, 63, [(0, .ref 59), (1, .int v1), (2, .int v2)], [.int s0], xw_W (xy_a (xy_a (xy_a (xy_a (xy_a (xy_a (xy_a (xy_a (xy_a A 73 t_items) 68 t_letters) 75 t_likes) 66 t_lines) 69 t_names) 67 t_numbers) 70 t_parts) 71 t_sorts) 72 t_values) L S) (.inl (some (.int r)), xw_W (xy_a (xy_a (xy_a (xy_a (xy_a (xy_a (xy_a (xy_a (xy_a A 73 t_items) 68 t_letters) 75 t_likes) 66 t_lines) 69 t_names) 67 t_numbers) 70 t_parts) 71 t_sorts) 72 t_values) L S) := by
  intro v1 v2 s0 r h
  unfold xf_rf_isLineAlike_63 at h
  refine xe_seg ok 3 (G := (fun K => K (83, xm_i83, xm_I83, 0, 0, 67, [(0, .ref 59), (1, .int v1), (2, .int v2), (3, .int s0), (4, .int ((0 : Int32)))], [], xw_W (xy_a (xy_a (xy_a (xy_a (xy_a (xy_a (xy_a (xy_a (xy_a A 73 t_items) 68 t_letters) 75 t_likes) 66 t_lines) 69 t_names) 67 t_numbers) 70 t_parts) 71 t_sorts) 72 t_values) L S))) (fun K => rfl) ?_
  refine xe_k ?_
  refine xe_sub [true, true, true, true, true] (lv' := [(0, .ref 59), (1, .int v1), (2, .int v2), (3, .int s0), (4, .int ((0 : Int32)))]) rfl ?_
  exact xh_rf_isLineAlike_57_67 ok A L S t_items t_letters t_likes t_lines t_names t_numbers t_parts t_sorts t_values n n v1 v2 s0 ((0 : Int32)) _ h
theorem xh_rf_isLineAlike_57_62 {l : Launch} {g : xr_G} (ok : xr_OK xm_P) (A : Nat → Nat → Int32) (L : Nat → Nat → Int64) (S : Nat → Nat → Int32) (t_items : (Nat → Int32)) (t_letters : (Nat → Int32)) (t_likes : (Nat → Int32)) (t_lines : (Nat → Int32)) (t_names : (Nat → Int32)) (t_numbers : (Nat → Int32)) (t_parts : (Nat → Int32)) (t_sorts : (Nat → Int32)) (t_values : (Nat → Int32)) (n : Nat) : ∀ (v1 : Int32) (v2 : Int32) (r : (Int32)), xf_rf_isLineAlike_62 t_items t_letters t_likes t_lines t_names t_numbers t_parts t_sorts t_values n v1 v2 = some r → xV xm_P l g (83, xm_i83, xm_I83, 0, 0, 62, [(0, .ref 59), (1, .int v1), (2, .int v2)], [], xw_W (xy_a (xy_a (xy_a (xy_a (xy_a (xy_a (xy_a (xy_a (xy_a A 73 t_items) 68 t_letters) 75 t_likes) 66 t_lines) 69 t_names) 67 t_numbers) 70 t_parts) 71 t_sorts) 72 t_values) L S) (.inl (some (.int r)), xw_W (xy_a (xy_a (xy_a (xy_a (xy_a (xy_a (xy_a (xy_a (xy_a A 73 t_items) 68 t_letters) 75 t_likes) 66 t_lines) 69 t_names) 67 t_numbers) 70 t_parts) 71 t_sorts) 72 t_values) L S) := by
  intro v1 v2 r h
  unfold xf_rf_isLineAlike_62 at h
  refine xe_seg ok 1 (G := (fun K => K (83, xm_i83, xm_I83, 0, 0, 63, [(0, .ref 59), (1, .int v1), (2, .int v2)], [.int ((0 : Int32))], xw_W (xy_a (xy_a (xy_a (xy_a (xy_a (xy_a (xy_a (xy_a (xy_a A 73 t_items) 68 t_letters) 75 t_likes) 66 t_lines) 69 t_names) 67 t_numbers) 70 t_parts) 71 t_sorts) 72 t_values) L S))) (fun K => rfl) ?_
  refine xe_k ?_
  refine xe_sub [true, true, true] (lv' := [(0, .ref 59), (1, .int v1), (2, .int v2)]) rfl ?_
  exact xh_rf_isLineAlike_57_63 ok A L S t_items t_letters t_likes t_lines t_names t_numbers t_parts t_sorts t_values n v1 v2 ((0 : Int32)) _ h
theorem xh_rf_isLineAlike_57 {l : Launch} {g : xr_G} (ok : xr_OK xm_P) (A : Nat → Nat → Int32) (L : Nat → Nat → Int64) (S : Nat → Nat → Int32) (t_items : (Nat → Int32)) (t_letters : (Nat → Int32)) (t_likes : (Nat → Int32)) (t_lines : (Nat → Int32)) (t_names : (Nat → Int32)) (t_numbers : (Nat → Int32)) (t_parts : (Nat → Int32)) (t_sorts : (Nat → Int32)) (t_values : (Nat → Int32)) (n : Nat) : ∀ (a1 : Int32) (a2 : Int32) (r : (Int32)), xf_rf_isLineAlike t_items t_letters t_likes t_lines t_names t_numbers t_parts t_sorts t_values n a1 a2 = some r → xV xm_P l g (83, xm_i83, xm_I83, 0, 0, 0, [(0, .ref 59), (1, .int a1), (2, .int a2)], [], xw_W (xy_a (xy_a (xy_a (xy_a (xy_a (xy_a (xy_a (xy_a (xy_a A 73 t_items) 68 t_letters) 75 t_likes) 66 t_lines) 69 t_names) 67 t_numbers) 70 t_parts) 71 t_sorts) 72 t_values) L S) (.inl (some (.int r)), xw_W (xy_a (xy_a (xy_a (xy_a (xy_a (xy_a (xy_a (xy_a (xy_a A 73 t_items) 68 t_letters) 75 t_likes) 66 t_lines) 69 t_names) 67 t_numbers) 70 t_parts) 71 t_sorts) 72 t_values) L S) := by
  intro a1 a2 r h
  unfold xf_rf_isLineAlike at h
  refine xe_seg ok 4 (G := (fun K => if xr_in a1 120 = true then K (83, xm_i83, xm_I83, 0, 0, 6, [(0, .ref 59), (1, .int a1), (2, .int a2)], [.int (t_letters a1.toNatClampNeg)], xw_W (xy_a (xy_a (xy_a (xy_a (xy_a (xy_a (xy_a (xy_a (xy_a A 73 t_items) 68 t_letters) 75 t_likes) 66 t_lines) 69 t_names) 67 t_numbers) 70 t_parts) 71 t_sorts) 72 t_values) L S) else none)) (fun K => rfl) ?_
  obtain ⟨hg1230, h⟩ := xn_if h
  refine xe_pos hg1230 (xe_k ?_)
  refine xe_seg ok 4 (G := (fun K => if xr_in a2 120 = true then K (83, xm_i83, xm_I83, 0, 0, 12, [(0, .ref 59), (1, .int a1), (2, .int a2)], [.int (t_letters a2.toNatClampNeg), .int (t_letters a1.toNatClampNeg)], xw_W (xy_a (xy_a (xy_a (xy_a (xy_a (xy_a (xy_a (xy_a (xy_a A 73 t_items) 68 t_letters) 75 t_likes) 66 t_lines) 69 t_names) 67 t_numbers) 70 t_parts) 71 t_sorts) 72 t_values) L S) else none)) (fun K => rfl) ?_
  obtain ⟨hg1231, h⟩ := xn_if h
  refine xe_pos hg1231 (xe_k ?_)
  refine xe_seg ok 1 (G := (fun K => if (t_letters a1.toNatClampNeg) = (t_letters a2.toNatClampNeg) then K (83, xm_i83, xm_I83, 0, 0, 15, [(0, .ref 59), (1, .int a1), (2, .int a2)], [], xw_W (xy_a (xy_a (xy_a (xy_a (xy_a (xy_a (xy_a (xy_a (xy_a A 73 t_items) 68 t_letters) 75 t_likes) 66 t_lines) 69 t_names) 67 t_numbers) 70 t_parts) 71 t_sorts) 72 t_values) L S) else K (83, xm_i83, xm_I83, 0, 0, 62, [(0, .ref 59), (1, .int a1), (2, .int a2)], [], xw_W (xy_a (xy_a (xy_a (xy_a (xy_a (xy_a (xy_a (xy_a (xy_a A 73 t_items) 68 t_letters) 75 t_likes) 66 t_lines) 69 t_names) 67 t_numbers) 70 t_parts) 71 t_sorts) 72 t_values) L S))) (fun K => rfl) ?_
  rcases xb_if h with ⟨hc1232, h⟩ | ⟨hc1232, h⟩
  · refine xe_pos hc1232 (xe_k ?_)
    refine xe_seg ok 4 (G := (fun K => if xr_in a1 120 = true then K (83, xm_i83, xm_I83, 0, 0, 21, [(0, .ref 59), (1, .int a1), (2, .int a2)], [.int (t_parts a1.toNatClampNeg)], xw_W (xy_a (xy_a (xy_a (xy_a (xy_a (xy_a (xy_a (xy_a (xy_a A 73 t_items) 68 t_letters) 75 t_likes) 66 t_lines) 69 t_names) 67 t_numbers) 70 t_parts) 71 t_sorts) 72 t_values) L S) else none)) (fun K => rfl) ?_
    obtain ⟨hg1233, h⟩ := xn_if h
    refine xe_pos hg1233 (xe_k ?_)
    refine xe_seg ok 4 (G := (fun K => if xr_in a2 120 = true then K (83, xm_i83, xm_I83, 0, 0, 27, [(0, .ref 59), (1, .int a1), (2, .int a2)], [.int (t_parts a2.toNatClampNeg), .int (t_parts a1.toNatClampNeg)], xw_W (xy_a (xy_a (xy_a (xy_a (xy_a (xy_a (xy_a (xy_a (xy_a A 73 t_items) 68 t_letters) 75 t_likes) 66 t_lines) 69 t_names) 67 t_numbers) 70 t_parts) 71 t_sorts) 72 t_values) L S) else none)) (fun K => rfl) ?_
    obtain ⟨hg1234, h⟩ := xn_if h
    refine xe_pos hg1234 (xe_k ?_)
    refine xe_seg ok 1 (G := (fun K => if (t_parts a1.toNatClampNeg) = (t_parts a2.toNatClampNeg) then K (83, xm_i83, xm_I83, 0, 0, 30, [(0, .ref 59), (1, .int a1), (2, .int a2)], [], xw_W (xy_a (xy_a (xy_a (xy_a (xy_a (xy_a (xy_a (xy_a (xy_a A 73 t_items) 68 t_letters) 75 t_likes) 66 t_lines) 69 t_names) 67 t_numbers) 70 t_parts) 71 t_sorts) 72 t_values) L S) else K (83, xm_i83, xm_I83, 0, 0, 62, [(0, .ref 59), (1, .int a1), (2, .int a2)], [], xw_W (xy_a (xy_a (xy_a (xy_a (xy_a (xy_a (xy_a (xy_a (xy_a A 73 t_items) 68 t_letters) 75 t_likes) 66 t_lines) 69 t_names) 67 t_numbers) 70 t_parts) 71 t_sorts) 72 t_values) L S))) (fun K => rfl) ?_
    rcases xb_if h with ⟨hc1235, h⟩ | ⟨hc1235, h⟩
    · refine xe_pos hc1235 (xe_k ?_)
      refine xe_seg ok 14 (G := (fun K => if xr_in a1 120 = true then K (83, xm_i83, xm_I83, 0, 0, 52, [(0, .ref 59), (1, .int a1), (2, .int a2)], [.int (t_letters a1.toNatClampNeg), .int (((8 : Int32)) * a2), .ref 71, .int (((8 : Int32)) * a1), .ref 71], xw_W (xy_a (xy_a (xy_a (xy_a (xy_a (xy_a (xy_a (xy_a (xy_a A 73 t_items) 68 t_letters) 75 t_likes) 66 t_lines) 69 t_names) 67 t_numbers) 70 t_parts) 71 t_sorts) 72 t_values) L S) else none)) (fun K => rfl) ?_
      obtain ⟨hg1236, h⟩ := xn_if h
      refine xe_pos hg1236 (xe_k ?_)
      refine xe_seg ok 1 (G := (fun K => xr_back K 83 xm_i83 xm_I83 0 0 52 [(0, .ref 59), (1, .int a1), (2, .int a2)] [] 78 true (K (47, xm_i47, xm_I47, 0, 0, 0, [(0, .ref 71), (1, .int (((8 : Int32)) * a1)), (2, .ref 71), (3, .int (((8 : Int32)) * a2)), (4, .int (t_letters a1.toNatClampNeg))], [], xw_W (xy_a (xy_a (xy_a (xy_a (xy_a (xy_a (xy_a (xy_a (xy_a A 73 t_items) 68 t_letters) 75 t_likes) 66 t_lines) 69 t_names) 67 t_numbers) 70 t_parts) 71 t_sorts) 72 t_values) L S)))) (fun K => rfl) ?_
      obtain ⟨q1243, hq1243, h⟩ := Option.bind_eq_some_iff.mp h
      have heq1243 := xh_rf_isSame_69_69 (l := l) (g := g) ok (xy_a (xy_a (xy_a (xy_a (xy_a (xy_a (xy_a (xy_a (xy_a A 73 t_items) 68 t_letters) 75 t_likes) 66 t_lines) 69 t_names) 67 t_numbers) 70 t_parts) 71 t_sorts) 72 t_values) L S t_names t_names 960 960 n (((8 : Int32)) * a1) (((8 : Int32)) * a2) (t_letters a1.toNatClampNeg) _ hq1243
      refine xe_call1 (ws' := xw_W (xy_a (xy_a (xy_a (xy_a (xy_a (xy_a (xy_a (xy_a (xy_a A 73 t_items) 68 t_letters) 75 t_likes) 66 t_lines) 69 t_names) 67 t_numbers) 70 t_parts) 71 t_sorts) 72 t_values) L S) (by decide) heq1243 (Or.inl rfl) ?_
      refine xe_seg ok 1 (G := (fun K => if q1243 = (0 : Int32) then K (83, xm_i83, xm_I83, 0, 0, 62, [(0, .ref 59), (1, .int a1), (2, .int a2)], [], xw_W (xy_a (xy_a (xy_a (xy_a (xy_a (xy_a (xy_a (xy_a (xy_a A 73 t_items) 68 t_letters) 75 t_likes) 66 t_lines) 69 t_names) 67 t_numbers) 70 t_parts) 71 t_sorts) 72 t_values) L S) else K (83, xm_i83, xm_I83, 0, 0, 58, [(0, .ref 59), (1, .int a1), (2, .int a2)], [], xw_W (xy_a (xy_a (xy_a (xy_a (xy_a (xy_a (xy_a (xy_a (xy_a A 73 t_items) 68 t_letters) 75 t_likes) 66 t_lines) 69 t_names) 67 t_numbers) 70 t_parts) 71 t_sorts) 72 t_values) L S))) (fun K => rfl) ?_
      rcases xb_if h with ⟨hc1244, h⟩ | ⟨hc1244, h⟩
      · refine xe_pos hc1244 (xe_k ?_)
        refine xe_sub [true, true, true] (lv' := [(0, .ref 59), (1, .int a1), (2, .int a2)]) rfl ?_
        exact xh_rf_isLineAlike_57_62 ok A L S t_items t_letters t_likes t_lines t_names t_numbers t_parts t_sorts t_values n a1 a2 _ h
      · refine xe_neg hc1244 (xe_k ?_)
        refine xe_seg ok 2 (G := (fun K => K (83, xm_i83, xm_I83, 0, 0, 63, [(0, .ref 59), (1, .int a1), (2, .int a2)], [.int ((1 : Int32))], xw_W (xy_a (xy_a (xy_a (xy_a (xy_a (xy_a (xy_a (xy_a (xy_a A 73 t_items) 68 t_letters) 75 t_likes) 66 t_lines) 69 t_names) 67 t_numbers) 70 t_parts) 71 t_sorts) 72 t_values) L S))) (fun K => rfl) ?_
        refine xe_k ?_
        refine xe_sub [true, true, true] (lv' := [(0, .ref 59), (1, .int a1), (2, .int a2)]) rfl ?_
        exact xh_rf_isLineAlike_57_63 ok A L S t_items t_letters t_likes t_lines t_names t_numbers t_parts t_sorts t_values n a1 a2 ((1 : Int32)) _ h
    · refine xe_neg hc1235 (xe_k ?_)
      refine xe_sub [true, true, true] (lv' := [(0, .ref 59), (1, .int a1), (2, .int a2)]) rfl ?_
      exact xh_rf_isLineAlike_57_62 ok A L S t_items t_letters t_likes t_lines t_names t_numbers t_parts t_sorts t_values n a1 a2 _ h
  · refine xe_neg hc1232 (xe_k ?_)
    refine xe_sub [true, true, true] (lv' := [(0, .ref 59), (1, .int a1), (2, .int a2)]) rfl ?_
    exact xh_rf_isLineAlike_57_62 ok A L S t_items t_letters t_likes t_lines t_names t_numbers t_parts t_sorts t_values n a1 a2 _ h
theorem xh_rf_findLikes_57_106 {l : Launch} {g : xr_G} (ok : xr_OK xm_P) (A : Nat → Nat → Int32) (L : Nat → Nat → Int64) (S : Nat → Nat → Int32) (t_items : (Nat → Int32)) (t_letters : (Nat → Int32)) (t_lines : (Nat → Int32)) (t_names : (Nat → Int32)) (t_numbers : (Nat → Int32)) (t_parts : (Nat → Int32)) (t_sorts : (Nat → Int32)) (t_values : (Nat → Int32)) {k27 : (Nat → Int32) → (Nat → Int32) → (Nat → Int64) → Int32 → Option (Unit × (Nat → Int32) × (Nat → Int32) × (Nat → Int64))} (hk27 : ∀ (t_depths : (Nat → Int32)) (t_likes : (Nat → Int32)) (t_ways : (Nat → Int64)) (v1 : Int32) (r : (Unit × (Nat → Int32) × (Nat → Int32) × (Nat → Int64))), k27 t_depths t_likes t_ways v1 = some r → xV xm_P l g (84, xm_i84, xm_I84, 0, 0, 27, [(0, .ref 59), (1, .int v1)], [], xw_W (xy_a (xy_a (xy_a (xy_a (xy_a (xy_a (xy_a (xy_a (xy_a (xy_a A 74 t_depths) 73 t_items) 68 t_letters) 75 t_likes) 66 t_lines) 69 t_names) 67 t_numbers) 70 t_parts) 71 t_sorts) 72 t_values) (xy_l L 76 t_ways) S) (.inl none, xw_W (xy_a (xy_a (xy_a (xy_a (xy_a (xy_a (xy_a (xy_a (xy_a (xy_a A 74 r.2.1) 73 t_items) 68 t_letters) 75 r.2.2.1) 66 t_lines) 69 t_names) 67 t_numbers) 70 t_parts) 71 t_sorts) 72 t_values) (xy_l L 76 r.2.2.2) S)) {k35 : (Nat → Int32) → (Nat → Int32) → (Nat → Int64) → Int32 → Int32 → Option (Unit × (Nat → Int32) × (Nat → Int32) × (Nat → Int64))} (hk35 : ∀ (t_depths : (Nat → Int32)) (t_likes : (Nat → Int32)) (t_ways : (Nat → Int64)) (v1 : Int32) (v2 : Int32) (r : (Unit × (Nat → Int32) × (Nat → Int32) × (Nat → Int64))), k35 t_depths t_likes t_ways v1 v2 = some r → xV xm_P l g (84, xm_i84, xm_I84, 0, 0, 35, [(0, .ref 59), (1, .int v1), (2, .int v2)], [], xw_W (xy_a (xy_a (xy_a (xy_a (xy_a (xy_a (xy_a (xy_a (xy_a (xy_a A 74 t_depths) 73 t_items) 68 t_letters) 75 t_likes) 66 t_lines) 69 t_names) 67 t_numbers) 70 t_parts) 71 t_sorts) 72 t_values) (xy_l L 76 t_ways) S) (.inl none, xw_W (xy_a (xy_a (xy_a (xy_a (xy_a (xy_a (xy_a (xy_a (xy_a (xy_a A 74 r.2.1) 73 t_items) 68 t_letters) 75 r.2.2.1) 66 t_lines) 69 t_names) 67 t_numbers) 70 t_parts) 71 t_sorts) 72 t_values) (xy_l L 76 r.2.2.2) S)) {k60 : (Nat → Int32) → (Nat → Int32) → (Nat → Int64) → Int32 → Int32 → Int32 → Option (Unit × (Nat → Int32) × (Nat → Int32) × (Nat → Int64))} (hk60 : ∀ (t_depths : (Nat → Int32)) (t_likes : (Nat → Int32)) (t_ways : (Nat → Int64)) (v1 : Int32) (v2 : Int32) (v3 : Int32) (r : (Unit × (Nat → Int32) × (Nat → Int32) × (Nat → Int64))), k60 t_depths t_likes t_ways v1 v2 v3 = some r → xV xm_P l g (84, xm_i84, xm_I84, 0, 0, 60, [(0, .ref 59), (1, .int v1), (2, .int v2), (3, .int v3)], [], xw_W (xy_a (xy_a (xy_a (xy_a (xy_a (xy_a (xy_a (xy_a (xy_a (xy_a A 74 t_depths) 73 t_items) 68 t_letters) 75 t_likes) 66 t_lines) 69 t_names) 67 t_numbers) 70 t_parts) 71 t_sorts) 72 t_values) (xy_l L 76 t_ways) S) (.inl none, xw_W (xy_a (xy_a (xy_a (xy_a (xy_a (xy_a (xy_a (xy_a (xy_a (xy_a A 74 r.2.1) 73 t_items) 68 t_letters) 75 r.2.2.1) 66 t_lines) 69 t_names) 67 t_numbers) 70 t_parts) 71 t_sorts) 72 t_values) (xy_l L 76 r.2.2.2) S)) (n : Nat) : ∀ (t_depths : (Nat → Int32)) (t_likes : (Nat → Int32)) (t_ways : (Nat → Int64)) (v1 : Int32) (v2 : Int32) (v3 : Int32) (r : (Unit × (Nat → Int32) × (Nat → Int32) × (Nat → Int64))), xf_rf_findLikes_106 t_items t_letters t_lines t_names t_numbers t_parts t_sorts t_values k27 k35 k60 n t_depths t_likes t_ways v1 v2 v3 = some r → xV xm_P l g (84, xm_i84, xm_I84, 0, 0, 106, [(0, .ref 59), (1, .int v1), (2, .int v2), (3, .int v3)], [], xw_W (xy_a (xy_a (xy_a (xy_a (xy_a (xy_a (xy_a (xy_a (xy_a (xy_a A 74 t_depths) 73 t_items) 68 t_letters) 75 t_likes) 66 t_lines) 69 t_names) 67 t_numbers) 70 t_parts) 71 t_sorts) 72 t_values) (xy_l L 76 t_ways) S) (.inl none, xw_W (xy_a (xy_a (xy_a (xy_a (xy_a (xy_a (xy_a (xy_a (xy_a (xy_a A 74 r.2.1) 73 t_items) 68 t_letters) 75 r.2.2.1) 66 t_lines) 69 t_names) 67 t_numbers) 70 t_parts) 71 t_sorts) 72 t_values) (xy_l L 76 r.2.2.2) S) := by
  intro t_depths t_likes t_ways v1 v2 v3 r h
  unfold xf_rf_findLikes_106 at h
  refine xe_seg ok 2 (G := (fun K => K (84, xm_i84, xm_I84, 0, 0, 60, [(0, .ref 59), (1, .int v1), (2, .int v2), (3, .int (v3 + (1 : Int32)))], [], xw_W (xy_a (xy_a (xy_a (xy_a (xy_a (xy_a (xy_a (xy_a (xy_a (xy_a A 74 t_depths) 73 t_items) 68 t_letters) 75 t_likes) 66 t_lines) 69 t_names) 67 t_numbers) 70 t_parts) 71 t_sorts) 72 t_values) (xy_l L 76 t_ways) S))) (fun K => rfl) ?_
  refine xe_k ?_
  refine xe_sub [true, true, true, true] (lv' := [(0, .ref 59), (1, .int v1), (2, .int v2), (3, .int (v3 + (1 : Int32)))]) rfl ?_
  exact hk60 t_depths t_likes t_ways v1 v2 (v3 + (1 : Int32)) _ h
theorem xh_rf_findLikes_57_112 {l : Launch} {g : xr_G} (ok : xr_OK xm_P) (A : Nat → Nat → Int32) (L : Nat → Nat → Int64) (S : Nat → Nat → Int32) (t_items : (Nat → Int32)) (t_letters : (Nat → Int32)) (t_lines : (Nat → Int32)) (t_names : (Nat → Int32)) (t_numbers : (Nat → Int32)) (t_parts : (Nat → Int32)) (t_sorts : (Nat → Int32)) (t_values : (Nat → Int32)) {k27 : (Nat → Int32) → (Nat → Int32) → (Nat → Int64) → Int32 → Option (Unit × (Nat → Int32) × (Nat → Int32) × (Nat → Int64))} (hk27 : ∀ (t_depths : (Nat → Int32)) (t_likes : (Nat → Int32)) (t_ways : (Nat → Int64)) (v1 : Int32) (r : (Unit × (Nat → Int32) × (Nat → Int32) × (Nat → Int64))), k27 t_depths t_likes t_ways v1 = some r → xV xm_P l g (84, xm_i84, xm_I84, 0, 0, 27, [(0, .ref 59), (1, .int v1)], [], xw_W (xy_a (xy_a (xy_a (xy_a (xy_a (xy_a (xy_a (xy_a (xy_a (xy_a A 74 t_depths) 73 t_items) 68 t_letters) 75 t_likes) 66 t_lines) 69 t_names) 67 t_numbers) 70 t_parts) 71 t_sorts) 72 t_values) (xy_l L 76 t_ways) S) (.inl none, xw_W (xy_a (xy_a (xy_a (xy_a (xy_a (xy_a (xy_a (xy_a (xy_a (xy_a A 74 r.2.1) 73 t_items) 68 t_letters) 75 r.2.2.1) 66 t_lines) 69 t_names) 67 t_numbers) 70 t_parts) 71 t_sorts) 72 t_values) (xy_l L 76 r.2.2.2) S)) {k35 : (Nat → Int32) → (Nat → Int32) → (Nat → Int64) → Int32 → Int32 → Option (Unit × (Nat → Int32) × (Nat → Int32) × (Nat → Int64))} (hk35 : ∀ (t_depths : (Nat → Int32)) (t_likes : (Nat → Int32)) (t_ways : (Nat → Int64)) (v1 : Int32) (v2 : Int32) (r : (Unit × (Nat → Int32) × (Nat → Int32) × (Nat → Int64))), k35 t_depths t_likes t_ways v1 v2 = some r → xV xm_P l g (84, xm_i84, xm_I84, 0, 0, 35, [(0, .ref 59), (1, .int v1), (2, .int v2)], [], xw_W (xy_a (xy_a (xy_a (xy_a (xy_a (xy_a (xy_a (xy_a (xy_a (xy_a A 74 t_depths) 73 t_items) 68 t_letters) 75 t_likes) 66 t_lines) 69 t_names) 67 t_numbers) 70 t_parts) 71 t_sorts) 72 t_values) (xy_l L 76 t_ways) S) (.inl none, xw_W (xy_a (xy_a (xy_a (xy_a (xy_a (xy_a (xy_a (xy_a (xy_a (xy_a A 74 r.2.1) 73 t_items) 68 t_letters) 75 r.2.2.1) 66 t_lines) 69 t_names) 67 t_numbers) 70 t_parts) 71 t_sorts) 72 t_values) (xy_l L 76 r.2.2.2) S)) (n : Nat) : ∀ (t_depths : (Nat → Int32)) (t_likes : (Nat → Int32)) (t_ways : (Nat → Int64)) (v1 : Int32) (v2 : Int32) (r : (Unit × (Nat → Int32) × (Nat → Int32) × (Nat → Int64))), xf_rf_findLikes_112 t_items t_letters t_lines t_names t_numbers t_parts t_sorts t_values k27 k35 n t_depths t_likes t_ways v1 v2 = some r → xV xm_P l g (84, xm_i84, xm_I84, 0, 0, 112, [(0, .ref 59), (1, .int v1), (2, .int v2)], [], xw_W (xy_a (xy_a (xy_a (xy_a (xy_a (xy_a (xy_a (xy_a (xy_a (xy_a A 74 t_depths) 73 t_items) 68 t_letters) 75 t_likes) 66 t_lines) 69 t_names) 67 t_numbers) 70 t_parts) 71 t_sorts) 72 t_values) (xy_l L 76 t_ways) S) (.inl none, xw_W (xy_a (xy_a (xy_a (xy_a (xy_a (xy_a (xy_a (xy_a (xy_a (xy_a A 74 r.2.1) 73 t_items) 68 t_letters) 75 r.2.2.1) 66 t_lines) 69 t_names) 67 t_numbers) 70 t_parts) 71 t_sorts) 72 t_values) (xy_l L 76 r.2.2.2) S) := by
  intro t_depths t_likes t_ways v1 v2 r h
  unfold xf_rf_findLikes_112 at h
  refine xe_seg ok 2 (G := (fun K => K (84, xm_i84, xm_I84, 0, 0, 35, [(0, .ref 59), (1, .int v1), (2, .int (v2 + (1 : Int32)))], [], xw_W (xy_a (xy_a (xy_a (xy_a (xy_a (xy_a (xy_a (xy_a (xy_a (xy_a A 74 t_depths) 73 t_items) 68 t_letters) 75 t_likes) 66 t_lines) 69 t_names) 67 t_numbers) 70 t_parts) 71 t_sorts) 72 t_values) (xy_l L 76 t_ways) S))) (fun K => rfl) ?_
  refine xe_k ?_
  refine xe_sub [true, true, true] (lv' := [(0, .ref 59), (1, .int v1), (2, .int (v2 + (1 : Int32)))]) rfl ?_
  exact hk35 t_depths t_likes t_ways v1 (v2 + (1 : Int32)) _ h
theorem xh_rf_findLikes_57_60 {l : Launch} {g : xr_G} (ok : xr_OK xm_P) (A : Nat → Nat → Int32) (L : Nat → Nat → Int64) (S : Nat → Nat → Int32) (t_items : (Nat → Int32)) (t_letters : (Nat → Int32)) (t_lines : (Nat → Int32)) (t_names : (Nat → Int32)) (t_numbers : (Nat → Int32)) (t_parts : (Nat → Int32)) (t_sorts : (Nat → Int32)) (t_values : (Nat → Int32)) {k27 : (Nat → Int32) → (Nat → Int32) → (Nat → Int64) → Int32 → Option (Unit × (Nat → Int32) × (Nat → Int32) × (Nat → Int64))} (hk27 : ∀ (t_depths : (Nat → Int32)) (t_likes : (Nat → Int32)) (t_ways : (Nat → Int64)) (v1 : Int32) (r : (Unit × (Nat → Int32) × (Nat → Int32) × (Nat → Int64))), k27 t_depths t_likes t_ways v1 = some r → xV xm_P l g (84, xm_i84, xm_I84, 0, 0, 27, [(0, .ref 59), (1, .int v1)], [], xw_W (xy_a (xy_a (xy_a (xy_a (xy_a (xy_a (xy_a (xy_a (xy_a (xy_a A 74 t_depths) 73 t_items) 68 t_letters) 75 t_likes) 66 t_lines) 69 t_names) 67 t_numbers) 70 t_parts) 71 t_sorts) 72 t_values) (xy_l L 76 t_ways) S) (.inl none, xw_W (xy_a (xy_a (xy_a (xy_a (xy_a (xy_a (xy_a (xy_a (xy_a (xy_a A 74 r.2.1) 73 t_items) 68 t_letters) 75 r.2.2.1) 66 t_lines) 69 t_names) 67 t_numbers) 70 t_parts) 71 t_sorts) 72 t_values) (xy_l L 76 r.2.2.2) S)) {k35 : (Nat → Int32) → (Nat → Int32) → (Nat → Int64) → Int32 → Int32 → Option (Unit × (Nat → Int32) × (Nat → Int32) × (Nat → Int64))} (hk35 : ∀ (t_depths : (Nat → Int32)) (t_likes : (Nat → Int32)) (t_ways : (Nat → Int64)) (v1 : Int32) (v2 : Int32) (r : (Unit × (Nat → Int32) × (Nat → Int32) × (Nat → Int64))), k35 t_depths t_likes t_ways v1 v2 = some r → xV xm_P l g (84, xm_i84, xm_I84, 0, 0, 35, [(0, .ref 59), (1, .int v1), (2, .int v2)], [], xw_W (xy_a (xy_a (xy_a (xy_a (xy_a (xy_a (xy_a (xy_a (xy_a (xy_a A 74 t_depths) 73 t_items) 68 t_letters) 75 t_likes) 66 t_lines) 69 t_names) 67 t_numbers) 70 t_parts) 71 t_sorts) 72 t_values) (xy_l L 76 t_ways) S) (.inl none, xw_W (xy_a (xy_a (xy_a (xy_a (xy_a (xy_a (xy_a (xy_a (xy_a (xy_a A 74 r.2.1) 73 t_items) 68 t_letters) 75 r.2.2.1) 66 t_lines) 69 t_names) 67 t_numbers) 70 t_parts) 71 t_sorts) 72 t_values) (xy_l L 76 r.2.2.2) S)) (n : Nat) : ∀ (N : Nat) (t_depths : (Nat → Int32)) (t_likes : (Nat → Int32)) (t_ways : (Nat → Int64)) (v1 : Int32) (v2 : Int32) (v3 : Int32) (r : (Unit × (Nat → Int32) × (Nat → Int32) × (Nat → Int64))), xf_rf_findLikes_60 t_items t_letters t_lines t_names t_numbers t_parts t_sorts t_values k27 k35 n N t_depths t_likes t_ways v1 v2 v3 = some r → xV xm_P l g (84, xm_i84, xm_I84, 0, 0, 60, [(0, .ref 59), (1, .int v1), (2, .int v2), (3, .int v3)], [], xw_W (xy_a (xy_a (xy_a (xy_a (xy_a (xy_a (xy_a (xy_a (xy_a (xy_a A 74 t_depths) 73 t_items) 68 t_letters) 75 t_likes) 66 t_lines) 69 t_names) 67 t_numbers) 70 t_parts) 71 t_sorts) 72 t_values) (xy_l L 76 t_ways) S) (.inl none, xw_W (xy_a (xy_a (xy_a (xy_a (xy_a (xy_a (xy_a (xy_a (xy_a (xy_a A 74 r.2.1) 73 t_items) 68 t_letters) 75 r.2.2.1) 66 t_lines) 69 t_names) 67 t_numbers) 70 t_parts) 71 t_sorts) 72 t_values) (xy_l L 76 r.2.2.2) S) := by
  intro N
  induction N with
  | zero => intro t_depths t_likes t_ways v1 v2 v3 r h; cases h
  | succ N hk60 =>
    intro t_depths t_likes t_ways v1 v2 v3 r h
    refine xe_seg ok 3 (G := (fun K => if v3 < v2 then K (84, xm_i84, xm_I84, 0, 0, 65, [(0, .ref 59), (1, .int v1), (2, .int v2), (3, .int v3)], [], xw_W (xy_a (xy_a (xy_a (xy_a (xy_a (xy_a (xy_a (xy_a (xy_a (xy_a A 74 t_depths) 73 t_items) 68 t_letters) 75 t_likes) 66 t_lines) 69 t_names) 67 t_numbers) 70 t_parts) 71 t_sorts) 72 t_values) (xy_l L 76 t_ways) S) else K (84, xm_i84, xm_I84, 0, 0, 112, [(0, .ref 59), (1, .int v1), (2, .int v2), (3, .int v3)], [], xw_W (xy_a (xy_a (xy_a (xy_a (xy_a (xy_a (xy_a (xy_a (xy_a (xy_a A 74 t_depths) 73 t_items) 68 t_letters) 75 t_likes) 66 t_lines) 69 t_names) 67 t_numbers) 70 t_parts) 71 t_sorts) 72 t_values) (xy_l L 76 t_ways) S))) (fun K => rfl) ?_
    rcases xb_if h with ⟨hc1225, h⟩ | ⟨hc1225, h⟩
    · refine xe_pos hc1225 (xe_k ?_)
      refine xe_seg ok 4 (G := (fun K => if xr_in v2 40 = true then K (84, xm_i84, xm_I84, 0, 0, 71, [(0, .ref 59), (1, .int v1), (2, .int v2), (3, .int v3)], [.int (t_likes v2.toNatClampNeg)], xw_W (xy_a (xy_a (xy_a (xy_a (xy_a (xy_a (xy_a (xy_a (xy_a (xy_a A 74 t_depths) 73 t_items) 68 t_letters) 75 t_likes) 66 t_lines) 69 t_names) 67 t_numbers) 70 t_parts) 71 t_sorts) 72 t_values) (xy_l L 76 t_ways) S) else none)) (fun K => rfl) ?_
      obtain ⟨hg1226, h⟩ := xn_if h
      refine xe_pos hg1226 (xe_k ?_)
      refine xe_seg ok 2 (G := (fun K => if (t_likes v2.toNatClampNeg) = v2 then K (84, xm_i84, xm_I84, 0, 0, 75, [(0, .ref 59), (1, .int v1), (2, .int v2), (3, .int v3)], [], xw_W (xy_a (xy_a (xy_a (xy_a (xy_a (xy_a (xy_a (xy_a (xy_a (xy_a A 74 t_depths) 73 t_items) 68 t_letters) 75 t_likes) 66 t_lines) 69 t_names) 67 t_numbers) 70 t_parts) 71 t_sorts) 72 t_values) (xy_l L 76 t_ways) S) else K (84, xm_i84, xm_I84, 0, 0, 112, [(0, .ref 59), (1, .int v1), (2, .int v2), (3, .int v3)], [], xw_W (xy_a (xy_a (xy_a (xy_a (xy_a (xy_a (xy_a (xy_a (xy_a (xy_a A 74 t_depths) 73 t_items) 68 t_letters) 75 t_likes) 66 t_lines) 69 t_names) 67 t_numbers) 70 t_parts) 71 t_sorts) 72 t_values) (xy_l L 76 t_ways) S))) (fun K => rfl) ?_
      rcases xb_if h with ⟨hc1227, h⟩ | ⟨hc1227, h⟩
      · refine xe_pos hc1227 (xe_k ?_)
        refine xe_seg ok 4 (G := (fun K => if xr_in v3 40 = true then K (84, xm_i84, xm_I84, 0, 0, 81, [(0, .ref 59), (1, .int v1), (2, .int v2), (3, .int v3)], [.int (t_depths v3.toNatClampNeg)], xw_W (xy_a (xy_a (xy_a (xy_a (xy_a (xy_a (xy_a (xy_a (xy_a (xy_a A 74 t_depths) 73 t_items) 68 t_letters) 75 t_likes) 66 t_lines) 69 t_names) 67 t_numbers) 70 t_parts) 71 t_sorts) 72 t_values) (xy_l L 76 t_ways) S) else none)) (fun K => rfl) ?_
        obtain ⟨hg1228, h⟩ := xn_if h
        refine xe_pos hg1228 (xe_k ?_)
        refine xe_seg ok 2 (G := (fun K => if (t_depths v3.toNatClampNeg) = v1 then K (84, xm_i84, xm_I84, 0, 0, 85, [(0, .ref 59), (1, .int v1), (2, .int v2), (3, .int v3)], [], xw_W (xy_a (xy_a (xy_a (xy_a (xy_a (xy_a (xy_a (xy_a (xy_a (xy_a A 74 t_depths) 73 t_items) 68 t_letters) 75 t_likes) 66 t_lines) 69 t_names) 67 t_numbers) 70 t_parts) 71 t_sorts) 72 t_values) (xy_l L 76 t_ways) S) else K (84, xm_i84, xm_I84, 0, 0, 106, [(0, .ref 59), (1, .int v1), (2, .int v2), (3, .int v3)], [], xw_W (xy_a (xy_a (xy_a (xy_a (xy_a (xy_a (xy_a (xy_a (xy_a (xy_a A 74 t_depths) 73 t_items) 68 t_letters) 75 t_likes) 66 t_lines) 69 t_names) 67 t_numbers) 70 t_parts) 71 t_sorts) 72 t_values) (xy_l L 76 t_ways) S))) (fun K => rfl) ?_
        rcases xb_if h with ⟨hc1229, h⟩ | ⟨hc1229, h⟩
        · refine xe_pos hc1229 (xe_k ?_)
          refine xe_seg ok 4 (G := (fun K => xr_back K 84 xm_i84 xm_I84 0 0 88 [(0, .ref 59), (1, .int v1), (2, .int v2), (3, .int v3)] [] 78 true (K (83, xm_i83, xm_I83, 0, 0, 0, [(0, .ref 59), (1, .int v2), (2, .int v3)], [], xw_W (xy_a (xy_a (xy_a (xy_a (xy_a (xy_a (xy_a (xy_a (xy_a (xy_a A 74 t_depths) 73 t_items) 68 t_letters) 75 t_likes) 66 t_lines) 69 t_names) 67 t_numbers) 70 t_parts) 71 t_sorts) 72 t_values) (xy_l L 76 t_ways) S)))) (fun K => rfl) ?_
          obtain ⟨q1292, hq1292, h⟩ := Option.bind_eq_some_iff.mp h
          have heq1292 := xh_rf_isLineAlike_57 (l := l) (g := g) ok (xy_a (xy_a (xy_a (xy_a (xy_a (xy_a (xy_a (xy_a (xy_a (xy_a A 74 t_depths) 73 t_items) 68 t_letters) 75 t_likes) 66 t_lines) 69 t_names) 67 t_numbers) 70 t_parts) 71 t_sorts) 72 t_values) (xy_l L 76 t_ways) S t_items t_letters t_likes t_lines t_names t_numbers t_parts t_sorts t_values n v2 v3 _ hq1292
          refine xe_call1 (ws' := xw_W (xy_a (xy_a (xy_a (xy_a (xy_a (xy_a (xy_a (xy_a (xy_a (xy_a A 74 t_depths) 73 t_items) 68 t_letters) 75 t_likes) 66 t_lines) 69 t_names) 67 t_numbers) 70 t_parts) 71 t_sorts) 72 t_values) (xy_l L 76 t_ways) S) (by decide) heq1292 (Or.inl rfl) ?_
          refine xe_seg ok 1 (G := (fun K => if q1292 = (0 : Int32) then K (84, xm_i84, xm_I84, 0, 0, 106, [(0, .ref 59), (1, .int v1), (2, .int v2), (3, .int v3)], [], xw_W (xy_a (xy_a (xy_a (xy_a (xy_a (xy_a (xy_a (xy_a (xy_a (xy_a A 74 t_depths) 73 t_items) 68 t_letters) 75 t_likes) 66 t_lines) 69 t_names) 67 t_numbers) 70 t_parts) 71 t_sorts) 72 t_values) (xy_l L 76 t_ways) S) else K (84, xm_i84, xm_I84, 0, 0, 94, [(0, .ref 59), (1, .int v1), (2, .int v2), (3, .int v3)], [], xw_W (xy_a (xy_a (xy_a (xy_a (xy_a (xy_a (xy_a (xy_a (xy_a (xy_a A 74 t_depths) 73 t_items) 68 t_letters) 75 t_likes) 66 t_lines) 69 t_names) 67 t_numbers) 70 t_parts) 71 t_sorts) 72 t_values) (xy_l L 76 t_ways) S))) (fun K => rfl) ?_
          rcases xb_if h with ⟨hc1293, h⟩ | ⟨hc1293, h⟩
          · refine xe_pos hc1293 (xe_k ?_)
            refine xe_sub [true, true, true, true] (lv' := [(0, .ref 59), (1, .int v1), (2, .int v2), (3, .int v3)]) rfl ?_
            exact xh_rf_findLikes_57_106 ok A L S t_items t_letters t_lines t_names t_numbers t_parts t_sorts t_values hk27 hk35 hk60 n t_depths t_likes t_ways v1 v2 v3 _ h
          · refine xe_neg hc1293 (xe_k ?_)
            refine xe_seg ok 7 (G := (fun K => if xr_in v3 40 = true then K (84, xm_i84, xm_I84, 0, 0, 105, [(0, .ref 59), (1, .int v1), (2, .int v2), (3, .int v3)], [.int (t_likes v3.toNatClampNeg), .int v2, .ref 77], xw_W (xy_a (xy_a (xy_a (xy_a (xy_a (xy_a (xy_a (xy_a (xy_a (xy_a A 74 t_depths) 73 t_items) 68 t_letters) 75 t_likes) 66 t_lines) 69 t_names) 67 t_numbers) 70 t_parts) 71 t_sorts) 72 t_values) (xy_l L 76 t_ways) S) else none)) (fun K => rfl) ?_
            obtain ⟨hg1294, h⟩ := xn_if h
            refine xe_pos hg1294 (xe_k ?_)
            refine xe_seg ok 1 (G := (fun K => if xr_in v2 40 = true then K (84, xm_i84, xm_I84, 0, 0, 106, [(0, .ref 59), (1, .int v1), (2, .int v2), (3, .int v3)], [], xw_W (xy_a (xy_a (xy_a (xy_a (xy_a (xy_a (xy_a (xy_a (xy_a (xy_a A 74 t_depths) 73 t_items) 68 t_letters) 75 (upd t_likes v2.toNatClampNeg ((t_likes v3.toNatClampNeg)))) 66 t_lines) 69 t_names) 67 t_numbers) 70 t_parts) 71 t_sorts) 72 t_values) (xy_l L 76 t_ways) S) else none)) (fun K => rfl) ?_
            obtain ⟨hg1295, h⟩ := xn_if h
            refine xe_pos hg1295 (xe_k ?_)
            refine xe_sub [true, true, true, true] (lv' := [(0, .ref 59), (1, .int v1), (2, .int v2), (3, .int v3)]) rfl ?_
            exact xh_rf_findLikes_57_106 ok A L S t_items t_letters t_lines t_names t_numbers t_parts t_sorts t_values hk27 hk35 hk60 n t_depths (upd t_likes v2.toNatClampNeg ((t_likes v3.toNatClampNeg))) t_ways v1 v2 v3 _ h
        · refine xe_neg hc1229 (xe_k ?_)
          refine xe_sub [true, true, true, true] (lv' := [(0, .ref 59), (1, .int v1), (2, .int v2), (3, .int v3)]) rfl ?_
          exact xh_rf_findLikes_57_106 ok A L S t_items t_letters t_lines t_names t_numbers t_parts t_sorts t_values hk27 hk35 hk60 n t_depths t_likes t_ways v1 v2 v3 _ h
      · refine xe_neg hc1227 (xe_k ?_)
        refine xe_sub [true, true, true, false] (lv' := [(0, .ref 59), (1, .int v1), (2, .int v2)]) rfl ?_
        exact xh_rf_findLikes_57_112 ok A L S t_items t_letters t_lines t_names t_numbers t_parts t_sorts t_values hk27 hk35 n t_depths t_likes t_ways v1 v2 _ h
    · refine xe_neg hc1225 (xe_k ?_)
      refine xe_sub [true, true, true, false] (lv' := [(0, .ref 59), (1, .int v1), (2, .int v2)]) rfl ?_
      exact xh_rf_findLikes_57_112 ok A L S t_items t_letters t_lines t_names t_numbers t_parts t_sorts t_values hk27 hk35 n t_depths t_likes t_ways v1 v2 _ h
theorem xh_rf_findLikes_57_35 {l : Launch} {g : xr_G} (ok : xr_OK xm_P) (A : Nat → Nat → Int32) (L : Nat → Nat → Int64) (S : Nat → Nat → Int32) (t_items : (Nat → Int32)) (t_letters : (Nat → Int32)) (t_lines : (Nat → Int32)) (t_names : (Nat → Int32)) (t_numbers : (Nat → Int32)) (t_parts : (Nat → Int32)) (t_sorts : (Nat → Int32)) (t_values : (Nat → Int32)) {k27 : (Nat → Int32) → (Nat → Int32) → (Nat → Int64) → Int32 → Option (Unit × (Nat → Int32) × (Nat → Int32) × (Nat → Int64))} (hk27 : ∀ (t_depths : (Nat → Int32)) (t_likes : (Nat → Int32)) (t_ways : (Nat → Int64)) (v1 : Int32) (r : (Unit × (Nat → Int32) × (Nat → Int32) × (Nat → Int64))), k27 t_depths t_likes t_ways v1 = some r → xV xm_P l g (84, xm_i84, xm_I84, 0, 0, 27, [(0, .ref 59), (1, .int v1)], [], xw_W (xy_a (xy_a (xy_a (xy_a (xy_a (xy_a (xy_a (xy_a (xy_a (xy_a A 74 t_depths) 73 t_items) 68 t_letters) 75 t_likes) 66 t_lines) 69 t_names) 67 t_numbers) 70 t_parts) 71 t_sorts) 72 t_values) (xy_l L 76 t_ways) S) (.inl none, xw_W (xy_a (xy_a (xy_a (xy_a (xy_a (xy_a (xy_a (xy_a (xy_a (xy_a A 74 r.2.1) 73 t_items) 68 t_letters) 75 r.2.2.1) 66 t_lines) 69 t_names) 67 t_numbers) 70 t_parts) 71 t_sorts) 72 t_values) (xy_l L 76 r.2.2.2) S)) (n : Nat) : ∀ (N : Nat) (t_depths : (Nat → Int32)) (t_likes : (Nat → Int32)) (t_ways : (Nat → Int64)) (v1 : Int32) (v2 : Int32) (r : (Unit × (Nat → Int32) × (Nat → Int32) × (Nat → Int64))), xf_rf_findLikes_35 t_items t_letters t_lines t_names t_numbers t_parts t_sorts t_values k27 n N t_depths t_likes t_ways v1 v2 = some r → xV xm_P l g (84, xm_i84, xm_I84, 0, 0, 35, [(0, .ref 59), (1, .int v1), (2, .int v2)], [], xw_W (xy_a (xy_a (xy_a (xy_a (xy_a (xy_a (xy_a (xy_a (xy_a (xy_a A 74 t_depths) 73 t_items) 68 t_letters) 75 t_likes) 66 t_lines) 69 t_names) 67 t_numbers) 70 t_parts) 71 t_sorts) 72 t_values) (xy_l L 76 t_ways) S) (.inl none, xw_W (xy_a (xy_a (xy_a (xy_a (xy_a (xy_a (xy_a (xy_a (xy_a (xy_a A 74 r.2.1) 73 t_items) 68 t_letters) 75 r.2.2.1) 66 t_lines) 69 t_names) 67 t_numbers) 70 t_parts) 71 t_sorts) 72 t_values) (xy_l L 76 r.2.2.2) S) := by
  intro N
  induction N with
  | zero => intro t_depths t_likes t_ways v1 v2 r h; cases h
  | succ N hk35 =>
    intro t_depths t_likes t_ways v1 v2 r h
    refine xe_seg ok 5 (G := (fun K => if xr_in ((0 : Int32)) 3 = true then K (84, xm_i84, xm_I84, 0, 0, 42, [(0, .ref 59), (1, .int v1), (2, .int v2)], [.int (t_lines ((0 : Int32)).toNatClampNeg), .int v2], xw_W (xy_a (xy_a (xy_a (xy_a (xy_a (xy_a (xy_a (xy_a (xy_a (xy_a A 74 t_depths) 73 t_items) 68 t_letters) 75 t_likes) 66 t_lines) 69 t_names) 67 t_numbers) 70 t_parts) 71 t_sorts) 72 t_values) (xy_l L 76 t_ways) S) else none)) (fun K => rfl) ?_
    obtain ⟨hg1221, h⟩ := xn_if h
    refine xe_pos hg1221 (xe_k ?_)
    refine xe_seg ok 1 (G := (fun K => if v2 < (t_lines ((0 : Int32)).toNatClampNeg) then K (84, xm_i84, xm_I84, 0, 0, 45, [(0, .ref 59), (1, .int v1), (2, .int v2)], [], xw_W (xy_a (xy_a (xy_a (xy_a (xy_a (xy_a (xy_a (xy_a (xy_a (xy_a A 74 t_depths) 73 t_items) 68 t_letters) 75 t_likes) 66 t_lines) 69 t_names) 67 t_numbers) 70 t_parts) 71 t_sorts) 72 t_values) (xy_l L 76 t_ways) S) else K (84, xm_i84, xm_I84, 0, 0, 118, [(0, .ref 59), (1, .int v1), (2, .int v2)], [], xw_W (xy_a (xy_a (xy_a (xy_a (xy_a (xy_a (xy_a (xy_a (xy_a (xy_a A 74 t_depths) 73 t_items) 68 t_letters) 75 t_likes) 66 t_lines) 69 t_names) 67 t_numbers) 70 t_parts) 71 t_sorts) 72 t_values) (xy_l L 76 t_ways) S))) (fun K => rfl) ?_
    rcases xb_if h with ⟨hc1222, h⟩ | ⟨hc1222, h⟩
    · refine xe_pos hc1222 (xe_k ?_)
      refine xe_seg ok 4 (G := (fun K => if xr_in v2 40 = true then K (84, xm_i84, xm_I84, 0, 0, 51, [(0, .ref 59), (1, .int v1), (2, .int v2)], [.int (t_depths v2.toNatClampNeg)], xw_W (xy_a (xy_a (xy_a (xy_a (xy_a (xy_a (xy_a (xy_a (xy_a (xy_a A 74 t_depths) 73 t_items) 68 t_letters) 75 t_likes) 66 t_lines) 69 t_names) 67 t_numbers) 70 t_parts) 71 t_sorts) 72 t_values) (xy_l L 76 t_ways) S) else none)) (fun K => rfl) ?_
      obtain ⟨hg1223, h⟩ := xn_if h
      refine xe_pos hg1223 (xe_k ?_)
      refine xe_seg ok 2 (G := (fun K => if (t_depths v2.toNatClampNeg) = v1 then K (84, xm_i84, xm_I84, 0, 0, 58, [(0, .ref 59), (1, .int v1), (2, .int v2)], [], xw_W (xy_a (xy_a (xy_a (xy_a (xy_a (xy_a (xy_a (xy_a (xy_a (xy_a A 74 t_depths) 73 t_items) 68 t_letters) 75 t_likes) 66 t_lines) 69 t_names) 67 t_numbers) 70 t_parts) 71 t_sorts) 72 t_values) (xy_l L 76 t_ways) S) else K (84, xm_i84, xm_I84, 0, 0, 55, [(0, .ref 59), (1, .int v1), (2, .int v2)], [], xw_W (xy_a (xy_a (xy_a (xy_a (xy_a (xy_a (xy_a (xy_a (xy_a (xy_a A 74 t_depths) 73 t_items) 68 t_letters) 75 t_likes) 66 t_lines) 69 t_names) 67 t_numbers) 70 t_parts) 71 t_sorts) 72 t_values) (xy_l L 76 t_ways) S))) (fun K => rfl) ?_
      rcases xb_if h with ⟨hc1224, h⟩ | ⟨hc1224, h⟩
      · refine xe_pos hc1224 (xe_k ?_)
        refine xe_seg ok 2 (G := (fun K => K (84, xm_i84, xm_I84, 0, 0, 60, [(0, .ref 59), (1, .int v1), (2, .int v2), (3, .int ((0 : Int32)))], [], xw_W (xy_a (xy_a (xy_a (xy_a (xy_a (xy_a (xy_a (xy_a (xy_a (xy_a A 74 t_depths) 73 t_items) 68 t_letters) 75 t_likes) 66 t_lines) 69 t_names) 67 t_numbers) 70 t_parts) 71 t_sorts) 72 t_values) (xy_l L 76 t_ways) S))) (fun K => rfl) ?_
        refine xe_k ?_
        refine xe_sub [true, true, true, true] (lv' := [(0, .ref 59), (1, .int v1), (2, .int v2), (3, .int ((0 : Int32)))]) rfl ?_
        exact xh_rf_findLikes_57_60 ok A L S t_items t_letters t_lines t_names t_numbers t_parts t_sorts t_values hk27 hk35 n n t_depths t_likes t_ways v1 v2 ((0 : Int32)) _ h
      · refine xe_neg hc1224 (xe_k ?_)
        refine xe_seg ok 1 (G := (fun K => K (84, xm_i84, xm_I84, 0, 0, 112, [(0, .ref 59), (1, .int v1), (2, .int v2)], [], xw_W (xy_a (xy_a (xy_a (xy_a (xy_a (xy_a (xy_a (xy_a (xy_a (xy_a A 74 t_depths) 73 t_items) 68 t_letters) 75 t_likes) 66 t_lines) 69 t_names) 67 t_numbers) 70 t_parts) 71 t_sorts) 72 t_values) (xy_l L 76 t_ways) S))) (fun K => rfl) ?_
        refine xe_k ?_
        refine xe_sub [true, true, true] (lv' := [(0, .ref 59), (1, .int v1), (2, .int v2)]) rfl ?_
        exact xh_rf_findLikes_57_112 ok A L S t_items t_letters t_lines t_names t_numbers t_parts t_sorts t_values hk27 hk35 n t_depths t_likes t_ways v1 v2 _ h
    · refine xe_neg hc1222 (xe_k ?_)
      refine xe_seg ok 2 (G := (fun K => K (84, xm_i84, xm_I84, 0, 0, 27, [(0, .ref 59), (1, .int (v1 + (1 : Int32))), (2, .int v2)], [], xw_W (xy_a (xy_a (xy_a (xy_a (xy_a (xy_a (xy_a (xy_a (xy_a (xy_a A 74 t_depths) 73 t_items) 68 t_letters) 75 t_likes) 66 t_lines) 69 t_names) 67 t_numbers) 70 t_parts) 71 t_sorts) 72 t_values) (xy_l L 76 t_ways) S))) (fun K => rfl) ?_
      refine xe_k ?_
      refine xe_sub [true, true, false] (lv' := [(0, .ref 59), (1, .int (v1 + (1 : Int32)))]) rfl ?_
      exact hk27 t_depths t_likes t_ways (v1 + (1 : Int32)) _ h
theorem xh_rf_findLikes_57_27 {l : Launch} {g : xr_G} (ok : xr_OK xm_P) (A : Nat → Nat → Int32) (L : Nat → Nat → Int64) (S : Nat → Nat → Int32) (t_items : (Nat → Int32)) (t_letters : (Nat → Int32)) (t_lines : (Nat → Int32)) (t_names : (Nat → Int32)) (t_numbers : (Nat → Int32)) (t_parts : (Nat → Int32)) (t_sorts : (Nat → Int32)) (t_values : (Nat → Int32)) (n : Nat) : ∀ (N : Nat) (t_depths : (Nat → Int32)) (t_likes : (Nat → Int32)) (t_ways : (Nat → Int64)) (v1 : Int32) (r : (Unit × (Nat → Int32) × (Nat → Int32) × (Nat → Int64))), xf_rf_findLikes_27 t_items t_letters t_lines t_names t_numbers t_parts t_sorts t_values n N t_depths t_likes t_ways v1 = some r → xV xm_P l g (84, xm_i84, xm_I84, 0, 0, 27, [(0, .ref 59), (1, .int v1)], [], xw_W (xy_a (xy_a (xy_a (xy_a (xy_a (xy_a (xy_a (xy_a (xy_a (xy_a A 74 t_depths) 73 t_items) 68 t_letters) 75 t_likes) 66 t_lines) 69 t_names) 67 t_numbers) 70 t_parts) 71 t_sorts) 72 t_values) (xy_l L 76 t_ways) S) (.inl none, xw_W (xy_a (xy_a (xy_a (xy_a (xy_a (xy_a (xy_a (xy_a (xy_a (xy_a A 74 r.2.1) 73 t_items) 68 t_letters) 75 r.2.2.1) 66 t_lines) 69 t_names) 67 t_numbers) 70 t_parts) 71 t_sorts) 72 t_values) (xy_l L 76 r.2.2.2) S) := by
  intro N
  induction N with
  | zero => intro t_depths t_likes t_ways v1 r h; cases h
  | succ N hk27 =>
    intro t_depths t_likes t_ways v1 r h
    refine xe_seg ok 3 (G := (fun K => if v1 < ((40 : Int32)) then K (84, xm_i84, xm_I84, 0, 0, 33, [(0, .ref 59), (1, .int v1)], [], xw_W (xy_a (xy_a (xy_a (xy_a (xy_a (xy_a (xy_a (xy_a (xy_a (xy_a A 74 t_depths) 73 t_items) 68 t_letters) 75 t_likes) 66 t_lines) 69 t_names) 67 t_numbers) 70 t_parts) 71 t_sorts) 72 t_values) (xy_l L 76 t_ways) S) else K (84, xm_i84, xm_I84, 0, 0, 124, [(0, .ref 59), (1, .int v1)], [], xw_W (xy_a (xy_a (xy_a (xy_a (xy_a (xy_a (xy_a (xy_a (xy_a (xy_a A 74 t_depths) 73 t_items) 68 t_letters) 75 t_likes) 66 t_lines) 69 t_names) 67 t_numbers) 70 t_parts) 71 t_sorts) 72 t_values) (xy_l L 76 t_ways) S))) (fun K => rfl) ?_
    rcases xb_if h with ⟨hc1220, h⟩ | ⟨hc1220, h⟩
    · refine xe_pos hc1220 (xe_k ?_)
      refine xe_seg ok 2 (G := (fun K => K (84, xm_i84, xm_I84, 0, 0, 35, [(0, .ref 59), (1, .int v1), (2, .int ((0 : Int32)))], [], xw_W (xy_a (xy_a (xy_a (xy_a (xy_a (xy_a (xy_a (xy_a (xy_a (xy_a A 74 t_depths) 73 t_items) 68 t_letters) 75 t_likes) 66 t_lines) 69 t_names) 67 t_numbers) 70 t_parts) 71 t_sorts) 72 t_values) (xy_l L 76 t_ways) S))) (fun K => rfl) ?_
      refine xe_k ?_
      refine xe_sub [true, true, true] (lv' := [(0, .ref 59), (1, .int v1), (2, .int ((0 : Int32)))]) rfl ?_
      exact xh_rf_findLikes_57_35 ok A L S t_items t_letters t_lines t_names t_numbers t_parts t_sorts t_values hk27 n n t_depths t_likes t_ways v1 ((0 : Int32)) _ h
    · refine xe_neg hc1220 (xe_k ?_)
      obtain rfl := Option.some.inj h
      refine xe_seg ok 1 (G := (fun _ => some (.inl none, xw_W (xy_a (xy_a (xy_a (xy_a (xy_a (xy_a (xy_a (xy_a (xy_a (xy_a A 74 t_depths) 73 t_items) 68 t_letters) 75 t_likes) 66 t_lines) 69 t_names) 67 t_numbers) 70 t_parts) 71 t_sorts) 72 t_values) (xy_l L 76 t_ways) S))) (fun K => rfl) ?_
      exact xe_ret
theorem xh_rf_findLikes_57_6 {l : Launch} {g : xr_G} (ok : xr_OK xm_P) (A : Nat → Nat → Int32) (L : Nat → Nat → Int64) (S : Nat → Nat → Int32) (t_items : (Nat → Int32)) (t_letters : (Nat → Int32)) (t_lines : (Nat → Int32)) (t_names : (Nat → Int32)) (t_numbers : (Nat → Int32)) (t_parts : (Nat → Int32)) (t_sorts : (Nat → Int32)) (t_values : (Nat → Int32)) (n : Nat) : ∀ (N : Nat) (t_depths : (Nat → Int32)) (t_likes : (Nat → Int32)) (t_ways : (Nat → Int64)) (v1 : Int32) (r : (Unit × (Nat → Int32) × (Nat → Int32) × (Nat → Int64))), xf_rf_findLikes_6 t_items t_letters t_lines t_names t_numbers t_parts t_sorts t_values n N t_depths t_likes t_ways v1 = some r → xV xm_P l g (84, xm_i84, xm_I84, 0, 0, 6, [(0, .ref 59), (1, .int v1)], [], xw_W (xy_a (xy_a (xy_a (xy_a (xy_a (xy_a (xy_a (xy_a (xy_a (xy_a A 74 t_depths) 73 t_items) 68 t_letters) 75 t_likes) 66 t_lines) 69 t_names) 67 t_numbers) 70 t_parts) 71 t_sorts) 72 t_values) (xy_l L 76 t_ways) S) (.inl none, xw_W (xy_a (xy_a (xy_a (xy_a (xy_a (xy_a (xy_a (xy_a (xy_a (xy_a A 74 r.2.1) 73 t_items) 68 t_letters) 75 r.2.2.1) 66 t_lines) 69 t_names) 67 t_numbers) 70 t_parts) 71 t_sorts) 72 t_values) (xy_l L 76 r.2.2.2) S) := by
  intro N
  induction N with
  | zero => intro t_depths t_likes t_ways v1 r h; cases h
  | succ N hk6 =>
    intro t_depths t_likes t_ways v1 r h
    refine xe_seg ok 3 (G := (fun K => if v1 < ((40 : Int32)) then K (84, xm_i84, xm_I84, 0, 0, 12, [(0, .ref 59), (1, .int v1)], [], xw_W (xy_a (xy_a (xy_a (xy_a (xy_a (xy_a (xy_a (xy_a (xy_a (xy_a A 74 t_depths) 73 t_items) 68 t_letters) 75 t_likes) 66 t_lines) 69 t_names) 67 t_numbers) 70 t_parts) 71 t_sorts) 72 t_values) (xy_l L 76 t_ways) S) else K (84, xm_i84, xm_I84, 0, 0, 25, [(0, .ref 59), (1, .int v1)], [], xw_W (xy_a (xy_a (xy_a (xy_a (xy_a (xy_a (xy_a (xy_a (xy_a (xy_a A 74 t_depths) 73 t_items) 68 t_letters) 75 t_likes) 66 t_lines) 69 t_names) 67 t_numbers) 70 t_parts) 71 t_sorts) 72 t_values) (xy_l L 76 t_ways) S))) (fun K => rfl) ?_
    rcases xb_if h with ⟨hc1218, h⟩ | ⟨hc1218, h⟩
    · refine xe_pos hc1218 (xe_k ?_)
      refine xe_seg ok 5 (G := (fun K => if xr_in v1 40 = true then K (84, xm_i84, xm_I84, 0, 0, 19, [(0, .ref 59), (1, .int v1)], [], xw_W (xy_a (xy_a (xy_a (xy_a (xy_a (xy_a (xy_a (xy_a (xy_a (xy_a A 74 t_depths) 73 t_items) 68 t_letters) 75 (upd t_likes v1.toNatClampNeg v1)) 66 t_lines) 69 t_names) 67 t_numbers) 70 t_parts) 71 t_sorts) 72 t_values) (xy_l L 76 t_ways) S) else none)) (fun K => rfl) ?_
      obtain ⟨hg1219, h⟩ := xn_if h
      refine xe_pos hg1219 (xe_k ?_)
      refine xe_seg ok 2 (G := (fun K => K (84, xm_i84, xm_I84, 0, 0, 6, [(0, .ref 59), (1, .int (v1 + (1 : Int32)))], [], xw_W (xy_a (xy_a (xy_a (xy_a (xy_a (xy_a (xy_a (xy_a (xy_a (xy_a A 74 t_depths) 73 t_items) 68 t_letters) 75 (upd t_likes v1.toNatClampNeg v1)) 66 t_lines) 69 t_names) 67 t_numbers) 70 t_parts) 71 t_sorts) 72 t_values) (xy_l L 76 t_ways) S))) (fun K => rfl) ?_
      refine xe_k ?_
      refine xe_sub [true, true] (lv' := [(0, .ref 59), (1, .int (v1 + (1 : Int32)))]) rfl ?_
      exact hk6 t_depths (upd t_likes v1.toNatClampNeg v1) t_ways (v1 + (1 : Int32)) _ h
    · refine xe_neg hc1218 (xe_k ?_)
      refine xe_seg ok 2 (G := (fun K => K (84, xm_i84, xm_I84, 0, 0, 27, [(0, .ref 59), (1, .int ((0 : Int32)))], [], xw_W (xy_a (xy_a (xy_a (xy_a (xy_a (xy_a (xy_a (xy_a (xy_a (xy_a A 74 t_depths) 73 t_items) 68 t_letters) 75 t_likes) 66 t_lines) 69 t_names) 67 t_numbers) 70 t_parts) 71 t_sorts) 72 t_values) (xy_l L 76 t_ways) S))) (fun K => rfl) ?_
      refine xe_k ?_
      refine xe_sub [true, true] (lv' := [(0, .ref 59), (1, .int ((0 : Int32)))]) rfl ?_
      exact xh_rf_findLikes_57_27 ok A L S t_items t_letters t_lines t_names t_numbers t_parts t_sorts t_values n n t_depths t_likes t_ways ((0 : Int32)) _ h
