set_option maxHeartbeats 400000 in
theorem xh_rf_read_57_22 {l : Launch} {g : xr_G} (ok : xr_OK xm_P) (a_59 a_60 a_61 a_62 a_63 a_64 a_65 a_74 a_75 : Nat → Int32) (l_76 : Nat → Int64) (s_57_24 : Int32) (X : Nat → xr_C) (t_text : (Nat → Int32)) (n : Nat) : ∀ (N : Nat) (t_at : Int32) (t_fault : Int32) (t_from : Int32) (t_items : (Nat → Int32)) (t_letters : (Nat → Int32)) (t_lines : (Nat → Int32)) (t_names : (Nat → Int32)) (t_numbers : (Nat → Int32)) (t_parts : (Nat → Int32)) (t_size : Int32) (t_sorts : (Nat → Int32)) (t_thrown : Int32) (t_values : (Nat → Int32)) (r : (Int32 × Int32 × Int32 × Int32 × (Nat → Int32) × (Nat → Int32) × (Nat → Int32) × (Nat → Int32) × (Nat → Int32) × (Nat → Int32) × Int32 × (Nat → Int32) × Int32 × (Nat → Int32))), xf_rf_read_22 t_text n N t_at t_fault t_from t_items t_letters t_lines t_names t_numbers t_parts t_size t_sorts t_thrown t_values = some r → xV xm_P l g (57, xm_i57, xm_I57, 0, 0, 22, [(0, .ref 59)], [], xw_R X t_thrown t_size t_at t_fault t_from s_57_24 t_text a_59 a_60 a_61 a_62 a_63 a_64 a_65 t_lines t_numbers t_letters t_names t_parts t_sorts t_values t_items a_74 a_75 l_76) (.inl (some (.int r.1)), xw_R X r.2.2.2.2.2.2.2.2.2.2.2.2.1 r.2.2.2.2.2.2.2.2.2.2.1 r.2.1 r.2.2.1 r.2.2.2.1 s_57_24 t_text a_59 a_60 a_61 a_62 a_63 a_64 a_65 r.2.2.2.2.2.2.1 r.2.2.2.2.2.2.2.2.1 r.2.2.2.2.2.1 r.2.2.2.2.2.2.2.1 r.2.2.2.2.2.2.2.2.2.1 r.2.2.2.2.2.2.2.2.2.2.2.1 r.2.2.2.2.2.2.2.2.2.2.2.2.2 r.2.2.2.2.1 a_74 a_75 l_76) := by
  intro N
  induction N with
  | zero => intro t_at t_fault t_from t_items t_letters t_lines t_names t_numbers t_parts t_size t_sorts t_thrown t_values r h; cases h
  | succ N hk22 =>
    intro t_at t_fault t_from t_items t_letters t_lines t_names t_numbers t_parts t_size t_sorts t_thrown t_values r h
    refine xe_seg ok 4 (G := (fun K => if t_fault = ((-1 : Int32)) then K (57, xm_i57, xm_I57, 0, 0, 30, [(0, .ref 59)], [], xw_R X t_thrown t_size t_at t_fault t_from s_57_24 t_text a_59 a_60 a_61 a_62 a_63 a_64 a_65 t_lines t_numbers t_letters t_names t_parts t_sorts t_values t_items a_74 a_75 l_76) else K (57, xm_i57, xm_I57, 0, 0, 44, [(0, .ref 59)], [], xw_R X t_thrown t_size t_at t_fault t_from s_57_24 t_text a_59 a_60 a_61 a_62 a_63 a_64 a_65 t_lines t_numbers t_letters t_names t_parts t_sorts t_values t_items a_74 a_75 l_76))) (fun K => rfl) ?_
    rcases xb_if h with ⟨hc694, h⟩ | ⟨hc694, h⟩
    · refine xe_pos hc694 (xe_k ?_)
      refine xe_seg ok 2 (G := (fun K => xr_back K 57 xm_i57 xm_I57 0 0 31 [(0, .ref 59)] [] 78 true (K (36, xm_i36, xm_I36, 0, 0, 0, [(0, .ref 59)], [], xw_R X t_thrown t_size t_at t_fault t_from s_57_24 t_text a_59 a_60 a_61 a_62 a_63 a_64 a_65 t_lines t_numbers t_letters t_names t_parts t_sorts t_values t_items a_74 a_75 l_76)))) (fun K => rfl) ?_
      obtain ⟨q695, hq695, h⟩ := Option.bind_eq_some_iff.mp h
      have heq695 := xh_rf_peek_57 (l := l) (g := g) ok a_59 a_60 a_61 a_62 a_63 a_64 a_65 t_lines t_numbers t_letters t_names t_parts t_sorts t_values t_items a_74 a_75 l_76 t_thrown t_fault t_from s_57_24 X t_size t_text n t_at _ hq695
      refine xe_call1 (ws' := xw_R X t_thrown t_size q695.2 t_fault t_from s_57_24 t_text a_59 a_60 a_61 a_62 a_63 a_64 a_65 t_lines t_numbers t_letters t_names t_parts t_sorts t_values t_items a_74 a_75 l_76) (by decide) heq695 (Or.inl rfl) ?_
      refine xe_seg ok 1 (G := (fun K => if q695.1 = (0 : Int32) then K (57, xm_i57, xm_I57, 0, 0, 44, [(0, .ref 59)], [], xw_R X t_thrown t_size q695.2 t_fault t_from s_57_24 t_text a_59 a_60 a_61 a_62 a_63 a_64 a_65 t_lines t_numbers t_letters t_names t_parts t_sorts t_values t_items a_74 a_75 l_76) else K (57, xm_i57, xm_I57, 0, 0, 37, [(0, .ref 59)], [], xw_R X t_thrown t_size q695.2 t_fault t_from s_57_24 t_text a_59 a_60 a_61 a_62 a_63 a_64 a_65 t_lines t_numbers t_letters t_names t_parts t_sorts t_values t_items a_74 a_75 l_76))) (fun K => rfl) ?_
      rcases xb_if h with ⟨hc696, h⟩ | ⟨hc696, h⟩
      · refine xe_pos hc696 (xe_k ?_)
        refine xe_sub [true] (lv' := [(0, .ref 59)]) rfl ?_
        have hz := xh_rf_read_57_44 (l := l) (g := g) ok a_59 a_60 a_61 a_62 a_63 a_64 a_65 a_74 a_75 l_76 s_57_24 X t_text n q695.2 t_fault t_from t_items t_letters t_lines t_names t_numbers t_parts t_size t_sorts t_thrown t_values _ h
        exact hz
      · refine xe_neg hc696 (xe_k ?_)
        refine xe_seg ok 2 (G := (fun K => xr_back K 57 xm_i57 xm_I57 0 0 38 [(0, .ref 59)] [] 78 true (K (54, xm_i54, xm_I54, 0, 0, 0, [(0, .ref 59)], [], xw_R X t_thrown t_size q695.2 t_fault t_from s_57_24 t_text a_59 a_60 a_61 a_62 a_63 a_64 a_65 t_lines t_numbers t_letters t_names t_parts t_sorts t_values t_items a_74 a_75 l_76)))) (fun K => rfl) ?_
        obtain ⟨q895, hq895, h⟩ := Option.bind_eq_some_iff.mp h
        have heq895 := xh_rf_oneLine_57 (l := l) (g := g) ok a_59 a_60 a_61 a_62 a_63 a_64 a_65 a_74 a_75 l_76 t_thrown s_57_24 X t_size t_text n q695.2 t_fault t_from t_items t_letters t_lines t_names t_numbers t_parts t_sorts t_values _ hq895
        refine xe_call0 (ws' := xw_R X t_thrown t_size q895.2.1 q895.2.2.1 q895.2.2.2.1 s_57_24 t_text a_59 a_60 a_61 a_62 a_63 a_64 a_65 q895.2.2.2.2.2.2.1 q895.2.2.2.2.2.2.2.2.1 q895.2.2.2.2.2.1 q895.2.2.2.2.2.2.2.1 q895.2.2.2.2.2.2.2.2.2.1 q895.2.2.2.2.2.2.2.2.2.2.1 q895.2.2.2.2.2.2.2.2.2.2.2 q895.2.2.2.2.1 a_74 a_75 l_76) (by decide) heq895 (Or.inl rfl) ?_
        refine xe_seg ok 1 (G := (fun K => K (57, xm_i57, xm_I57, 0, 0, 22, [(0, .ref 59)], [], xw_R X t_thrown t_size q895.2.1 q895.2.2.1 q895.2.2.2.1 s_57_24 t_text a_59 a_60 a_61 a_62 a_63 a_64 a_65 q895.2.2.2.2.2.2.1 q895.2.2.2.2.2.2.2.2.1 q895.2.2.2.2.2.1 q895.2.2.2.2.2.2.2.1 q895.2.2.2.2.2.2.2.2.2.1 q895.2.2.2.2.2.2.2.2.2.2.1 q895.2.2.2.2.2.2.2.2.2.2.2 q895.2.2.2.2.1 a_74 a_75 l_76))) (fun K => rfl) ?_
        refine xe_k ?_
        refine xe_sub [true] (lv' := [(0, .ref 59)]) rfl ?_
        have hz := hk22 q895.2.1 q895.2.2.1 q895.2.2.2.1 q895.2.2.2.2.1 q895.2.2.2.2.2.1 q895.2.2.2.2.2.2.1 q895.2.2.2.2.2.2.2.1 q895.2.2.2.2.2.2.2.2.1 q895.2.2.2.2.2.2.2.2.2.1 t_size q895.2.2.2.2.2.2.2.2.2.2.1 t_thrown q895.2.2.2.2.2.2.2.2.2.2.2 _ h
        exact hz
    · refine xe_neg hc694 (xe_k ?_)
      refine xe_sub [true] (lv' := [(0, .ref 59)]) rfl ?_
      have hz := xh_rf_read_57_44 (l := l) (g := g) ok a_59 a_60 a_61 a_62 a_63 a_64 a_65 a_74 a_75 l_76 s_57_24 X t_text n t_at t_fault t_from t_items t_letters t_lines t_names t_numbers t_parts t_size t_sorts t_thrown t_values _ h
      exact hz
set_option maxHeartbeats 400000 in
theorem xh_rf_read_57 {l : Launch} {g : xr_G} (ok : xr_OK xm_P) (a_59 a_60 a_61 a_62 a_63 a_64 a_65 a_74 a_75 : Nat → Int32) (l_76 : Nat → Int64) (s_57_24 : Int32) (X : Nat → xr_C) (t_text : (Nat → Int32)) (n : Nat) : ∀ (t_at : Int32) (t_fault : Int32) (t_from : Int32) (t_items : (Nat → Int32)) (t_letters : (Nat → Int32)) (t_lines : (Nat → Int32)) (t_names : (Nat → Int32)) (t_numbers : (Nat → Int32)) (t_parts : (Nat → Int32)) (t_size : Int32) (t_sorts : (Nat → Int32)) (t_thrown : Int32) (t_values : (Nat → Int32)) (r : (Int32 × Int32 × Int32 × Int32 × (Nat → Int32) × (Nat → Int32) × (Nat → Int32) × (Nat → Int32) × (Nat → Int32) × (Nat → Int32) × Int32 × (Nat → Int32) × Int32 × (Nat → Int32))), xf_rf_read t_text n t_at t_fault t_from t_items t_letters t_lines t_names t_numbers t_parts t_size t_sorts t_thrown t_values = some r → xV xm_P l g (57, xm_i57, xm_I57, 0, 0, 0, [(0, .ref 59)], [], xw_R X t_thrown t_size t_at t_fault t_from s_57_24 t_text a_59 a_60 a_61 a_62 a_63 a_64 a_65 t_lines t_numbers t_letters t_names t_parts t_sorts t_values t_items a_74 a_75 l_76) (.inl (some (.int r.1)), xw_R X r.2.2.2.2.2.2.2.2.2.2.2.2.1 r.2.2.2.2.2.2.2.2.2.2.1 r.2.1 r.2.2.1 r.2.2.2.1 s_57_24 t_text a_59 a_60 a_61 a_62 a_63 a_64 a_65 r.2.2.2.2.2.2.1 r.2.2.2.2.2.2.2.2.1 r.2.2.2.2.2.1 r.2.2.2.2.2.2.2.1 r.2.2.2.2.2.2.2.2.2.1 r.2.2.2.2.2.2.2.2.2.2.2.1 r.2.2.2.2.2.2.2.2.2.2.2.2.2 r.2.2.2.2.1 a_74 a_75 l_76) := by
  intro t_at t_fault t_from t_items t_letters t_lines t_names t_numbers t_parts t_size t_sorts t_thrown t_values r h
  unfold xf_rf_read at h
  refine xe_seg ok 14 (G := (fun K => if xr_in ((1 : Int32)) 3 = true then K (57, xm_i57, xm_I57, 0, 0, 22, [(0, .ref 59)], [], xw_R X ((0 : Int32)) t_size ((0 : Int32)) ((-1 : Int32)) t_from s_57_24 t_text a_59 a_60 a_61 a_62 a_63 a_64 a_65 (upd t_lines ((1 : Int32)).toNatClampNeg (((0 : Int32)))) t_numbers t_letters t_names t_parts t_sorts t_values t_items a_74 a_75 l_76) else none)) (fun K => rfl) ?_
  refine xe_pos (by decide) (xe_k ?_)
  refine xe_sub [true] (lv' := [(0, .ref 59)]) rfl ?_
  have hz := xh_rf_read_57_22 (l := l) (g := g) ok a_59 a_60 a_61 a_62 a_63 a_64 a_65 a_74 a_75 l_76 s_57_24 X t_text n n ((0 : Int32)) ((-1 : Int32)) t_from t_items t_letters (upd t_lines ((1 : Int32)).toNatClampNeg (((0 : Int32)))) t_names t_numbers t_parts t_size t_sorts ((0 : Int32)) t_values _ h
  exact hz
set_option maxHeartbeats 400000 in
theorem xh_rf_put_57_20 {l : Launch} {g : xr_G} (ok : xr_OK xm_P) (a_58 a_60 a_61 a_62 a_63 a_64 a_65 a_66 a_67 a_68 a_69 a_70 a_71 a_72 a_73 a_74 a_75 : Nat → Int32) (l_76 : Nat → Int64) (s_57_0 s_57_1 s_57_18 s_57_19 s_57_20 : Int32) (X : Nat → xr_C) : ∀ (t_out : (Nat → Int32)) (t_written : Int32) (r : (Unit × (Nat → Int32) × Int32)), xf_rf_put_20  t_out t_written = some r → xV xm_P l g (58, xm_i58, xm_I58, 0, 0, 20, [(0, .ref 59)], [], xw_R X s_57_0 s_57_1 s_57_18 s_57_19 s_57_20 t_written a_58 t_out a_60 a_61 a_62 a_63 a_64 a_65 a_66 a_67 a_68 a_69 a_70 a_71 a_72 a_73 a_74 a_75 l_76) (.inl none, xw_R X s_57_0 s_57_1 s_57_18 s_57_19 s_57_20 r.2.2 a_58 r.2.1 a_60 a_61 a_62 a_63 a_64 a_65 a_66 a_67 a_68 a_69 a_70 a_71 a_72 a_73 a_74 a_75 l_76) := by
  intro t_out t_written r h
  unfold xf_rf_put_20 at h
  obtain rfl := Option.some.inj h
  refine xe_seg ok 7 (G := (fun _ => some (.inl none, xw_R X s_57_0 s_57_1 s_57_18 s_57_19 s_57_20 (t_written + ((1 : Int32))) a_58 t_out a_60 a_61 a_62 a_63 a_64 a_65 a_66 a_67 a_68 a_69 a_70 a_71 a_72 a_73 a_74 a_75 l_76))) (fun K => rfl) ?_
  exact xe_ret
set_option maxHeartbeats 400000 in
theorem xh_rf_put_57 {l : Launch} {g : xr_G} (ok : xr_OK xm_P) (a_58 a_60 a_61 a_62 a_63 a_64 a_65 a_66 a_67 a_68 a_69 a_70 a_71 a_72 a_73 a_74 a_75 : Nat → Int32) (l_76 : Nat → Int64) (s_57_0 s_57_1 s_57_18 s_57_19 s_57_20 : Int32) (X : Nat → xr_C) : ∀ (t_out : (Nat → Int32)) (t_written : Int32) (a1 : Int32) (r : (Unit × (Nat → Int32) × Int32)), xf_rf_put  t_out t_written a1 = some r → xV xm_P l g (58, xm_i58, xm_I58, 0, 0, 0, [(0, .ref 59), (1, .int a1)], [], xw_R X s_57_0 s_57_1 s_57_18 s_57_19 s_57_20 t_written a_58 t_out a_60 a_61 a_62 a_63 a_64 a_65 a_66 a_67 a_68 a_69 a_70 a_71 a_72 a_73 a_74 a_75 l_76) (.inl none, xw_R X s_57_0 s_57_1 s_57_18 s_57_19 s_57_20 r.2.2 a_58 r.2.1 a_60 a_61 a_62 a_63 a_64 a_65 a_66 a_67 a_68 a_69 a_70 a_71 a_72 a_73 a_74 a_75 l_76) := by
  intro t_out t_written a1 r h
  unfold xf_rf_put at h
  refine xe_seg ok 4 (G := (fun K => if t_written < ((1200 : Int32)) then K (58, xm_i58, xm_I58, 0, 0, 10, [(0, .ref 59), (1, .int a1)], [], xw_R X s_57_0 s_57_1 s_57_18 s_57_19 s_57_20 t_written a_58 t_out a_60 a_61 a_62 a_63 a_64 a_65 a_66 a_67 a_68 a_69 a_70 a_71 a_72 a_73 a_74 a_75 l_76) else K (58, xm_i58, xm_I58, 0, 0, 20, [(0, .ref 59), (1, .int a1)], [], xw_R X s_57_0 s_57_1 s_57_18 s_57_19 s_57_20 t_written a_58 t_out a_60 a_61 a_62 a_63 a_64 a_65 a_66 a_67 a_68 a_69 a_70 a_71 a_72 a_73 a_74 a_75 l_76))) (fun K => rfl) ?_
  rcases xb_if h with ⟨hc897, h⟩ | ⟨hc897, h⟩
  · refine xe_pos hc897 (xe_k ?_)
    refine xe_seg ok 6 (G := (fun K => if xr_in t_written 1200 = true then K (58, xm_i58, xm_I58, 0, 0, 20, [(0, .ref 59), (1, .int a1)], [], xw_R X s_57_0 s_57_1 s_57_18 s_57_19 s_57_20 t_written a_58 (upd t_out t_written.toNatClampNeg a1) a_60 a_61 a_62 a_63 a_64 a_65 a_66 a_67 a_68 a_69 a_70 a_71 a_72 a_73 a_74 a_75 l_76) else none)) (fun K => rfl) ?_
    obtain ⟨hg898, h⟩ := xn_if h
    refine xe_pos hg898 (xe_k ?_)
    refine xe_sub [true, false] (lv' := [(0, .ref 59)]) rfl ?_
    have hz := xh_rf_put_57_20 (l := l) (g := g) ok a_58 a_60 a_61 a_62 a_63 a_64 a_65 a_66 a_67 a_68 a_69 a_70 a_71 a_72 a_73 a_74 a_75 l_76 s_57_0 s_57_1 s_57_18 s_57_19 s_57_20 X (upd t_out t_written.toNatClampNeg a1) t_written _ h
    exact hz
  · refine xe_neg hc897 (xe_k ?_)
    refine xe_sub [true, false] (lv' := [(0, .ref 59)]) rfl ?_
    have hz := xh_rf_put_57_20 (l := l) (g := g) ok a_58 a_60 a_61 a_62 a_63 a_64 a_65 a_66 a_67 a_68 a_69 a_70 a_71 a_72 a_73 a_74 a_75 l_76 s_57_0 s_57_1 s_57_18 s_57_19 s_57_20 X t_out t_written _ h
    exact hz
set_option maxHeartbeats 400000 in
theorem xh_rf_putNumber_57_39 {l : Launch} {g : xr_G} (ok : xr_OK xm_P) (a_58 a_60 a_61 a_62 a_63 a_64 a_65 a_66 a_67 a_68 a_69 a_70 a_71 a_72 a_73 a_74 a_75 : Nat → Int32) (l_76 : Nat → Int64) (s_57_0 s_57_1 s_57_18 s_57_19 s_57_20 : Int32) (X : Nat → xr_C) (n : Nat) : ∀ (N : Nat) (t_out : (Nat → Int32)) (t_written : Int32) (v2 : Int32) (v3 : Int32) (r : (Unit × (Nat → Int32) × Int32)), xf_rf_putNumber_39 n N t_out t_written v2 v3 = some r → xV xm_P l g (59, xm_i59, xm_I59, 0, 0, 39, [(0, .ref 59), (2, .int v2), (3, .int v3)], [], xw_R X s_57_0 s_57_1 s_57_18 s_57_19 s_57_20 t_written a_58 t_out a_60 a_61 a_62 a_63 a_64 a_65 a_66 a_67 a_68 a_69 a_70 a_71 a_72 a_73 a_74 a_75 l_76) (.inl none, xw_R X s_57_0 s_57_1 s_57_18 s_57_19 s_57_20 r.2.2 a_58 r.2.1 a_60 a_61 a_62 a_63 a_64 a_65 a_66 a_67 a_68 a_69 a_70 a_71 a_72 a_73 a_74 a_75 l_76) := by
  intro N
  induction N with
  | zero => intro t_out t_written v2 v3 r h; cases h
  | succ N hk39 =>
    intro t_out t_written v2 v3 r h
    refine xe_seg ok 2 (G := (fun K => if (0 : Int32) < v3 then K (59, xm_i59, xm_I59, 0, 0, 43, [(0, .ref 59), (2, .int v2), (3, .int v3)], [], xw_R X s_57_0 s_57_1 s_57_18 s_57_19 s_57_20 t_written a_58 t_out a_60 a_61 a_62 a_63 a_64 a_65 a_66 a_67 a_68 a_69 a_70 a_71 a_72 a_73 a_74 a_75 l_76) else K (59, xm_i59, xm_I59, 0, 0, 64, [(0, .ref 59), (2, .int v2), (3, .int v3)], [], xw_R X s_57_0 s_57_1 s_57_18 s_57_19 s_57_20 t_written a_58 t_out a_60 a_61 a_62 a_63 a_64 a_65 a_66 a_67 a_68 a_69 a_70 a_71 a_72 a_73 a_74 a_75 l_76))) (fun K => rfl) ?_
    rcases xb_if h with ⟨hc906, h⟩ | ⟨hc906, h⟩
    · refine xe_pos hc906 (xe_k ?_)
      refine xe_seg ok 5 (G := (fun K => if v3 = (0 : Int32) then none else K (59, xm_i59, xm_I59, 0, 0, 49, [(0, .ref 59), (2, .int v2), (3, .int v3)], [.int (v2 / v3), .int ((48 : Int32)), .ref 59], xw_R X s_57_0 s_57_1 s_57_18 s_57_19 s_57_20 t_written a_58 t_out a_60 a_61 a_62 a_63 a_64 a_65 a_66 a_67 a_68 a_69 a_70 a_71 a_72 a_73 a_74 a_75 l_76))) (fun K => rfl) ?_
      obtain ⟨hg907, h⟩ := xn_ifn h
      refine xe_neg hg907 (xe_k ?_)
      refine xe_seg ok 2 (G := (fun K => if ((10 : Int32)) = (0 : Int32) then none else K (59, xm_i59, xm_I59, 0, 0, 52, [(0, .ref 59), (2, .int v2), (3, .int v3)], [.int ((v2 / v3) - (v2 / v3) / ((10 : Int32)) * ((10 : Int32))), .int ((48 : Int32)), .ref 59], xw_R X s_57_0 s_57_1 s_57_18 s_57_19 s_57_20 t_written a_58 t_out a_60 a_61 a_62 a_63 a_64 a_65 a_66 a_67 a_68 a_69 a_70 a_71 a_72 a_73 a_74 a_75 l_76))) (fun K => rfl) ?_
      obtain ⟨hg908, h⟩ := xn_ifn h
      refine xe_neg hg908 (xe_k ?_)
      refine xe_seg ok 2 (G := (fun K => xr_back K 59 xm_i59 xm_I59 0 0 53 [(0, .ref 59), (2, .int v2), (3, .int v3)] [] 78 true (K (58, xm_i58, xm_I58, 0, 0, 0, [(0, .ref 59), (1, .int (((48 : Int32)) + ((v2 / v3) - (v2 / v3) / ((10 : Int32)) * ((10 : Int32)))))], [], xw_R X s_57_0 s_57_1 s_57_18 s_57_19 s_57_20 t_written a_58 t_out a_60 a_61 a_62 a_63 a_64 a_65 a_66 a_67 a_68 a_69 a_70 a_71 a_72 a_73 a_74 a_75 l_76)))) (fun K => rfl) ?_
      obtain ⟨q909, hq909, h⟩ := Option.bind_eq_some_iff.mp h
      have heq909 := xh_rf_put_57 (l := l) (g := g) ok a_58 a_60 a_61 a_62 a_63 a_64 a_65 a_66 a_67 a_68 a_69 a_70 a_71 a_72 a_73 a_74 a_75 l_76 s_57_0 s_57_1 s_57_18 s_57_19 s_57_20 X t_out t_written (((48 : Int32)) + ((v2 / v3) - (v2 / v3) / ((10 : Int32)) * ((10 : Int32)))) _ hq909
      refine xe_call0 (ws' := xw_R X s_57_0 s_57_1 s_57_18 s_57_19 s_57_20 q909.2.2 a_58 q909.2.1 a_60 a_61 a_62 a_63 a_64 a_65 a_66 a_67 a_68 a_69 a_70 a_71 a_72 a_73 a_74 a_75 l_76) (by decide) heq909 (Or.inl rfl) ?_
      refine xe_seg ok 3 (G := (fun K => if ((10 : Int32)) = (0 : Int32) then none else K (59, xm_i59, xm_I59, 0, 0, 60, [(0, .ref 59), (2, .int v2), (3, .int v3)], [.int (v3 / ((10 : Int32)))], xw_R X s_57_0 s_57_1 s_57_18 s_57_19 s_57_20 q909.2.2 a_58 q909.2.1 a_60 a_61 a_62 a_63 a_64 a_65 a_66 a_67 a_68 a_69 a_70 a_71 a_72 a_73 a_74 a_75 l_76))) (fun K => rfl) ?_
      obtain ⟨hg910, h⟩ := xn_ifn h
      refine xe_neg hg910 (xe_k ?_)
      refine xe_seg ok 2 (G := (fun K => K (59, xm_i59, xm_I59, 0, 0, 39, [(0, .ref 59), (2, .int v2), (3, .int (v3 / ((10 : Int32))))], [], xw_R X s_57_0 s_57_1 s_57_18 s_57_19 s_57_20 q909.2.2 a_58 q909.2.1 a_60 a_61 a_62 a_63 a_64 a_65 a_66 a_67 a_68 a_69 a_70 a_71 a_72 a_73 a_74 a_75 l_76))) (fun K => rfl) ?_
      refine xe_k ?_
      refine xe_sub [true, true, true] (lv' := [(0, .ref 59), (2, .int v2), (3, .int (v3 / ((10 : Int32))))]) rfl ?_
      have hz := hk39 q909.2.1 q909.2.2 v2 (v3 / ((10 : Int32))) _ h
      exact hz
    · refine xe_neg hc906 (xe_k ?_)
      obtain rfl := Option.some.inj h
      refine xe_seg ok 1 (G := (fun _ => some (.inl none, xw_R X s_57_0 s_57_1 s_57_18 s_57_19 s_57_20 t_written a_58 t_out a_60 a_61 a_62 a_63 a_64 a_65 a_66 a_67 a_68 a_69 a_70 a_71 a_72 a_73 a_74 a_75 l_76))) (fun K => rfl) ?_
      exact xe_ret
set_option maxHeartbeats 400000 in
theorem xh_rf_putNumber_57_23 {l : Launch} {g : xr_G} (ok : xr_OK xm_P) (a_58 a_60 a_61 a_62 a_63 a_64 a_65 a_66 a_67 a_68 a_69 a_70 a_71 a_72 a_73 a_74 a_75 : Nat → Int32) (l_76 : Nat → Int64) (s_57_0 s_57_1 s_57_18 s_57_19 s_57_20 : Int32) (X : Nat → xr_C) (n : Nat) : ∀ (N : Nat) (t_out : (Nat → Int32)) (t_written : Int32) (v2 : Int32) (v3 : Int32) (r : (Unit × (Nat → Int32) × Int32)), xf_rf_putNumber_23 n N t_out t_written v2 v3 = some r → xV xm_P l g (59, xm_i59, xm_I59, 0, 0, 23, [(0, .ref 59), (2, .int v2), (3, .int v3)], [], xw_R X s_57_0 s_57_1 s_57_18 s_57_19 s_57_20 t_written a_58 t_out a_60 a_61 a_62 a_63 a_64 a_65 a_66 a_67 a_68 a_69 a_70 a_71 a_72 a_73 a_74 a_75 l_76) (.inl none, xw_R X s_57_0 s_57_1 s_57_18 s_57_19 s_57_20 r.2.2 a_58 r.2.1 a_60 a_61 a_62 a_63 a_64 a_65 a_66 a_67 a_68 a_69 a_70 a_71 a_72 a_73 a_74 a_75 l_76) := by
  intro N
  induction N with
  | zero => intro t_out t_written v2 v3 r h; cases h
  | succ N hk23 =>
    intro t_out t_written v2 v3 r h
    refine xe_seg ok 3 (G := (fun K => if v3 = (0 : Int32) then none else K (59, xm_i59, xm_I59, 0, 0, 26, [(0, .ref 59), (2, .int v2), (3, .int v3)], [.int (v2 / v3)], xw_R X s_57_0 s_57_1 s_57_18 s_57_19 s_57_20 t_written a_58 t_out a_60 a_61 a_62 a_63 a_64 a_65 a_66 a_67 a_68 a_69 a_70 a_71 a_72 a_73 a_74 a_75 l_76))) (fun K => rfl) ?_
    obtain ⟨hg904, h⟩ := xn_ifn h
    refine xe_neg hg904 (xe_k ?_)
    refine xe_seg ok 2 (G := (fun K => if ((9 : Int32)) < (v2 / v3) then K (59, xm_i59, xm_I59, 0, 0, 31, [(0, .ref 59), (2, .int v2), (3, .int v3)], [], xw_R X s_57_0 s_57_1 s_57_18 s_57_19 s_57_20 t_written a_58 t_out a_60 a_61 a_62 a_63 a_64 a_65 a_66 a_67 a_68 a_69 a_70 a_71 a_72 a_73 a_74 a_75 l_76) else K (59, xm_i59, xm_I59, 0, 0, 39, [(0, .ref 59), (2, .int v2), (3, .int v3)], [], xw_R X s_57_0 s_57_1 s_57_18 s_57_19 s_57_20 t_written a_58 t_out a_60 a_61 a_62 a_63 a_64 a_65 a_66 a_67 a_68 a_69 a_70 a_71 a_72 a_73 a_74 a_75 l_76))) (fun K => rfl) ?_
    rcases xb_if h with ⟨hc905, h⟩ | ⟨hc905, h⟩
    · refine xe_pos hc905 (xe_k ?_)
      refine xe_seg ok 5 (G := (fun K => K (59, xm_i59, xm_I59, 0, 0, 23, [(0, .ref 59), (2, .int v2), (3, .int (((10 : Int32)) * v3))], [], xw_R X s_57_0 s_57_1 s_57_18 s_57_19 s_57_20 t_written a_58 t_out a_60 a_61 a_62 a_63 a_64 a_65 a_66 a_67 a_68 a_69 a_70 a_71 a_72 a_73 a_74 a_75 l_76))) (fun K => rfl) ?_
      refine xe_k ?_
      refine xe_sub [true, true, true] (lv' := [(0, .ref 59), (2, .int v2), (3, .int (((10 : Int32)) * v3))]) rfl ?_
      have hz := hk23 t_out t_written v2 (((10 : Int32)) * v3) _ h
      exact hz
    · refine xe_neg hc905 (xe_k ?_)
      refine xe_sub [true, true, true] (lv' := [(0, .ref 59), (2, .int v2), (3, .int v3)]) rfl ?_
      have hz := xh_rf_putNumber_57_39 (l := l) (g := g) ok a_58 a_60 a_61 a_62 a_63 a_64 a_65 a_66 a_67 a_68 a_69 a_70 a_71 a_72 a_73 a_74 a_75 l_76 s_57_0 s_57_1 s_57_18 s_57_19 s_57_20 X n n t_out t_written v2 v3 _ h
      exact hz
set_option maxHeartbeats 400000 in
theorem xh_rf_putNumber_57_20 {l : Launch} {g : xr_G} (ok : xr_OK xm_P) (a_58 a_60 a_61 a_62 a_63 a_64 a_65 a_66 a_67 a_68 a_69 a_70 a_71 a_72 a_73 a_74 a_75 : Nat → Int32) (l_76 : Nat → Int64) (s_57_0 s_57_1 s_57_18 s_57_19 s_57_20 : Int32) (X : Nat → xr_C) (n : Nat) : ∀ (t_out : (Nat → Int32)) (t_written : Int32) (s0 : Int32) (r : (Unit × (Nat → Int32) × Int32)), xf_rf_putNumber_20 n t_out t_written s0 = some r → xV xm_P l g (59, xm_i59, xm_I59, 0, 0, 20, [(0, .ref 59)], [.int s0], xw_R X s_57_0 s_57_1 s_57_18 s_57_19 s_57_20 t_written a_58 t_out a_60 a_61 a_62 a_63 a_64 a_65 a_66 a_67 a_68 a_69 a_70 a_71 a_72 a_73 a_74 a_75 l_76) (.inl none, xw_R X s_57_0 s_57_1 s_57_18 s_57_19 s_57_20 r.2.2 a_58 r.2.1 a_60 a_61 a_62 a_63 a_64 a_65 a_66 a_67 a_68 a_69 a_70 a_71 a_72 a_73 a_74 a_75 l_76) := by
  intro t_out t_written s0 r h
  unfold xf_rf_putNumber_20 at h
  refine xe_seg ok 3 (G := (fun K => K (59, xm_i59, xm_I59, 0, 0, 23, [(0, .ref 59), (2, .int s0), (3, .int ((1 : Int32)))], [], xw_R X s_57_0 s_57_1 s_57_18 s_57_19 s_57_20 t_written a_58 t_out a_60 a_61 a_62 a_63 a_64 a_65 a_66 a_67 a_68 a_69 a_70 a_71 a_72 a_73 a_74 a_75 l_76))) (fun K => rfl) ?_
  refine xe_k ?_
  refine xe_sub [true, true, true] (lv' := [(0, .ref 59), (2, .int s0), (3, .int ((1 : Int32)))]) rfl ?_
  have hz := xh_rf_putNumber_57_23 (l := l) (g := g) ok a_58 a_60 a_61 a_62 a_63 a_64 a_65 a_66 a_67 a_68 a_69 a_70 a_71 a_72 a_73 a_74 a_75 l_76 s_57_0 s_57_1 s_57_18 s_57_19 s_57_20 X n n t_out t_written s0 ((1 : Int32)) _ h
  exact hz
set_option maxHeartbeats 400000 in
theorem xh_rf_putNumber_57_10 {l : Launch} {g : xr_G} (ok : xr_OK xm_P) (a_58 a_60 a_61 a_62 a_63 a_64 a_65 a_66 a_67 a_68 a_69 a_70 a_71 a_72 a_73 a_74 a_75 : Nat → Int32) (l_76 : Nat → Int64) (s_57_0 s_57_1 s_57_18 s_57_19 s_57_20 : Int32) (X : Nat → xr_C) (n : Nat) : ∀ (t_out : (Nat → Int32)) (t_written : Int32) (v1 : Int32) (r : (Unit × (Nat → Int32) × Int32)), xf_rf_putNumber_10 n t_out t_written v1 = some r → xV xm_P l g (59, xm_i59, xm_I59, 0, 0, 10, [(0, .ref 59), (1, .int v1)], [], xw_R X s_57_0 s_57_1 s_57_18 s_57_19 s_57_20 t_written a_58 t_out a_60 a_61 a_62 a_63 a_64 a_65 a_66 a_67 a_68 a_69 a_70 a_71 a_72 a_73 a_74 a_75 l_76) (.inl none, xw_R X s_57_0 s_57_1 s_57_18 s_57_19 s_57_20 r.2.2 a_58 r.2.1 a_60 a_61 a_62 a_63 a_64 a_65 a_66 a_67 a_68 a_69 a_70 a_71 a_72 a_73 a_74 a_75 l_76) := by
  intro t_out t_written v1 r h
  unfold xf_rf_putNumber_10 at h
  refine xe_seg ok 2 (G := (fun K => if v1 < (0 : Int32) then K (59, xm_i59, xm_I59, 0, 0, 14, [(0, .ref 59), (1, .int v1)], [], xw_R X s_57_0 s_57_1 s_57_18 s_57_19 s_57_20 t_written a_58 t_out a_60 a_61 a_62 a_63 a_64 a_65 a_66 a_67 a_68 a_69 a_70 a_71 a_72 a_73 a_74 a_75 l_76) else K (59, xm_i59, xm_I59, 0, 0, 19, [(0, .ref 59), (1, .int v1)], [], xw_R X s_57_0 s_57_1 s_57_18 s_57_19 s_57_20 t_written a_58 t_out a_60 a_61 a_62 a_63 a_64 a_65 a_66 a_67 a_68 a_69 a_70 a_71 a_72 a_73 a_74 a_75 l_76))) (fun K => rfl) ?_
  rcases xb_if h with ⟨hc903, h⟩ | ⟨hc903, h⟩
  · refine xe_pos hc903 (xe_k ?_)
    refine xe_seg ok 3 (G := (fun K => K (59, xm_i59, xm_I59, 0, 0, 20, [(0, .ref 59), (1, .int v1)], [.int (-v1)], xw_R X s_57_0 s_57_1 s_57_18 s_57_19 s_57_20 t_written a_58 t_out a_60 a_61 a_62 a_63 a_64 a_65 a_66 a_67 a_68 a_69 a_70 a_71 a_72 a_73 a_74 a_75 l_76))) (fun K => rfl) ?_
    refine xe_k ?_
    refine xe_sub [true, false] (lv' := [(0, .ref 59)]) rfl ?_
    have hz := xh_rf_putNumber_57_20 (l := l) (g := g) ok a_58 a_60 a_61 a_62 a_63 a_64 a_65 a_66 a_67 a_68 a_69 a_70 a_71 a_72 a_73 a_74 a_75 l_76 s_57_0 s_57_1 s_57_18 s_57_19 s_57_20 X n t_out t_written (-v1) _ h
    exact hz
  · refine xe_neg hc903 (xe_k ?_)
    refine xe_seg ok 1 (G := (fun K => K (59, xm_i59, xm_I59, 0, 0, 20, [(0, .ref 59), (1, .int v1)], [.int v1], xw_R X s_57_0 s_57_1 s_57_18 s_57_19 s_57_20 t_written a_58 t_out a_60 a_61 a_62 a_63 a_64 a_65 a_66 a_67 a_68 a_69 a_70 a_71 a_72 a_73 a_74 a_75 l_76))) (fun K => rfl) ?_
    refine xe_k ?_
    refine xe_sub [true, false] (lv' := [(0, .ref 59)]) rfl ?_
    have hz := xh_rf_putNumber_57_20 (l := l) (g := g) ok a_58 a_60 a_61 a_62 a_63 a_64 a_65 a_66 a_67 a_68 a_69 a_70 a_71 a_72 a_73 a_74 a_75 l_76 s_57_0 s_57_1 s_57_18 s_57_19 s_57_20 X n t_out t_written v1 _ h
    exact hz
set_option maxHeartbeats 400000 in
theorem xh_rf_putNumber_57 {l : Launch} {g : xr_G} (ok : xr_OK xm_P) (a_58 a_60 a_61 a_62 a_63 a_64 a_65 a_66 a_67 a_68 a_69 a_70 a_71 a_72 a_73 a_74 a_75 : Nat → Int32) (l_76 : Nat → Int64) (s_57_0 s_57_1 s_57_18 s_57_19 s_57_20 : Int32) (X : Nat → xr_C) (n : Nat) : ∀ (t_out : (Nat → Int32)) (t_written : Int32) (a1 : Int32) (r : (Unit × (Nat → Int32) × Int32)), xf_rf_putNumber n t_out t_written a1 = some r → xV xm_P l g (59, xm_i59, xm_I59, 0, 0, 0, [(0, .ref 59), (1, .int a1)], [], xw_R X s_57_0 s_57_1 s_57_18 s_57_19 s_57_20 t_written a_58 t_out a_60 a_61 a_62 a_63 a_64 a_65 a_66 a_67 a_68 a_69 a_70 a_71 a_72 a_73 a_74 a_75 l_76) (.inl none, xw_R X s_57_0 s_57_1 s_57_18 s_57_19 s_57_20 r.2.2 a_58 r.2.1 a_60 a_61 a_62 a_63 a_64 a_65 a_66 a_67 a_68 a_69 a_70 a_71 a_72 a_73 a_74 a_75 l_76) := by
  intro t_out t_written a1 r h
  unfold xf_rf_putNumber at h
  refine xe_seg ok 2 (G := (fun K => if a1 < (0 : Int32) then K (59, xm_i59, xm_I59, 0, 0, 4, [(0, .ref 59), (1, .int a1)], [], xw_R X s_57_0 s_57_1 s_57_18 s_57_19 s_57_20 t_written a_58 t_out a_60 a_61 a_62 a_63 a_64 a_65 a_66 a_67 a_68 a_69 a_70 a_71 a_72 a_73 a_74 a_75 l_76) else K (59, xm_i59, xm_I59, 0, 0, 10, [(0, .ref 59), (1, .int a1)], [], xw_R X s_57_0 s_57_1 s_57_18 s_57_19 s_57_20 t_written a_58 t_out a_60 a_61 a_62 a_63 a_64 a_65 a_66 a_67 a_68 a_69 a_70 a_71 a_72 a_73 a_74 a_75 l_76))) (fun K => rfl) ?_
  rcases xb_if h with ⟨hc901, h⟩ | ⟨hc901, h⟩
  · refine xe_pos hc901 (xe_k ?_)
    refine xe_seg ok 3 (G := (fun K => xr_back K 59 xm_i59 xm_I59 0 0 7 [(0, .ref 59), (1, .int a1)] [] 78 true (K (58, xm_i58, xm_I58, 0, 0, 0, [(0, .ref 59), (1, .int ((45 : Int32)))], [], xw_R X s_57_0 s_57_1 s_57_18 s_57_19 s_57_20 t_written a_58 t_out a_60 a_61 a_62 a_63 a_64 a_65 a_66 a_67 a_68 a_69 a_70 a_71 a_72 a_73 a_74 a_75 l_76)))) (fun K => rfl) ?_
    obtain ⟨q902, hq902, h⟩ := Option.bind_eq_some_iff.mp h
    have heq902 := xh_rf_put_57 (l := l) (g := g) ok a_58 a_60 a_61 a_62 a_63 a_64 a_65 a_66 a_67 a_68 a_69 a_70 a_71 a_72 a_73 a_74 a_75 l_76 s_57_0 s_57_1 s_57_18 s_57_19 s_57_20 X t_out t_written ((45 : Int32)) _ hq902
    refine xe_call0 (ws' := xw_R X s_57_0 s_57_1 s_57_18 s_57_19 s_57_20 q902.2.2 a_58 q902.2.1 a_60 a_61 a_62 a_63 a_64 a_65 a_66 a_67 a_68 a_69 a_70 a_71 a_72 a_73 a_74 a_75 l_76) (by decide) heq902 (Or.inl rfl) ?_
    refine xe_sub [true, true] (lv' := [(0, .ref 59), (1, .int a1)]) rfl ?_
    have hz := xh_rf_putNumber_57_10 (l := l) (g := g) ok a_58 a_60 a_61 a_62 a_63 a_64 a_65 a_66 a_67 a_68 a_69 a_70 a_71 a_72 a_73 a_74 a_75 l_76 s_57_0 s_57_1 s_57_18 s_57_19 s_57_20 X n q902.2.1 q902.2.2 a1 _ h
    exact hz
  · refine xe_neg hc901 (xe_k ?_)
    refine xe_sub [true, true] (lv' := [(0, .ref 59), (1, .int a1)]) rfl ?_
    have hz := xh_rf_putNumber_57_10 (l := l) (g := g) ok a_58 a_60 a_61 a_62 a_63 a_64 a_65 a_66 a_67 a_68 a_69 a_70 a_71 a_72 a_73 a_74 a_75 l_76 s_57_0 s_57_1 s_57_18 s_57_19 s_57_20 X n t_out t_written a1 _ h
    exact hz
set_option maxHeartbeats 400000 in
theorem xh_rf_putArgument_57_269 {l : Launch} {g : xr_G} (ok : xr_OK xm_P) (a_58 a_60 a_61 a_62 a_63 a_64 a_65 a_66 a_67 a_68 a_69 a_70 a_74 a_75 : Nat → Int32) (l_76 : Nat → Int64) (s_57_0 s_57_1 s_57_18 s_57_19 s_57_20 : Int32) (X : Nat → xr_C) (t_items : (Nat → Int32)) (t_sorts : (Nat → Int32)) (t_values : (Nat → Int32)) (n : Nat) : ∀ (t_out : (Nat → Int32)) (t_written : Int32) (r : (Unit × (Nat → Int32) × Int32)), xf_rf_putArgument_269 t_items t_sorts t_values n t_out t_written = some r → xV xm_P l g (60, xm_i60, xm_I60, 0, 0, 269, [], [], xw_R X s_57_0 s_57_1 s_57_18 s_57_19 s_57_20 t_written a_58 t_out a_60 a_61 a_62 a_63 a_64 a_65 a_66 a_67 a_68 a_69 a_70 t_sorts t_values t_items a_74 a_75 l_76) (.inl none, xw_R X s_57_0 s_57_1 s_57_18 s_57_19 s_57_20 r.2.2 a_58 r.2.1 a_60 a_61 a_62 a_63 a_64 a_65 a_66 a_67 a_68 a_69 a_70 t_sorts t_values t_items a_74 a_75 l_76) := by
  intro t_out t_written r h
  unfold xf_rf_putArgument_269 at h
  obtain rfl := Option.some.inj h
  refine xe_seg ok 1 (G := (fun _ => some (.inl none, xw_R X s_57_0 s_57_1 s_57_18 s_57_19 s_57_20 t_written a_58 t_out a_60 a_61 a_62 a_63 a_64 a_65 a_66 a_67 a_68 a_69 a_70 t_sorts t_values t_items a_74 a_75 l_76))) (fun K => rfl) ?_
  exact xe_ret
set_option maxHeartbeats 400000 in
theorem xh_rf_putArgument_57_107 {l : Launch} {g : xr_G} (ok : xr_OK xm_P) (a_58 a_60 a_61 a_62 a_63 a_64 a_65 a_66 a_67 a_68 a_69 a_70 a_74 a_75 : Nat → Int32) (l_76 : Nat → Int64) (s_57_0 s_57_1 s_57_18 s_57_19 s_57_20 : Int32) (X : Nat → xr_C) (t_items : (Nat → Int32)) (t_sorts : (Nat → Int32)) (t_values : (Nat → Int32)) {k69 : (Nat → Int32) → Int32 → Int32 → Int32 → Option (Unit × (Nat → Int32) × Int32)} (hk69 : ∀ (t_out : (Nat → Int32)) (t_written : Int32) (v1 : Int32) (v2 : Int32) (r : (Unit × (Nat → Int32) × Int32)), k69 t_out t_written v1 v2 = some r → xV xm_P l g (60, xm_i60, xm_I60, 0, 0, 69, [(0, .ref 59), (1, .int v1), (2, .int v2)], [], xw_R X s_57_0 s_57_1 s_57_18 s_57_19 s_57_20 t_written a_58 t_out a_60 a_61 a_62 a_63 a_64 a_65 a_66 a_67 a_68 a_69 a_70 t_sorts t_values t_items a_74 a_75 l_76) (.inl none, xw_R X s_57_0 s_57_1 s_57_18 s_57_19 s_57_20 r.2.2 a_58 r.2.1 a_60 a_61 a_62 a_63 a_64 a_65 a_66 a_67 a_68 a_69 a_70 t_sorts t_values t_items a_74 a_75 l_76)) (n : Nat) : ∀ (t_out : (Nat → Int32)) (t_written : Int32) (v1 : Int32) (v2 : Int32) (r : (Unit × (Nat → Int32) × Int32)), xf_rf_putArgument_107 t_items t_sorts t_values k69 n t_out t_written v1 v2 = some r → xV xm_P l g (60, xm_i60, xm_I60, 0, 0, 107, [(0, .ref 59), (1, .int v1), (2, .int v2)], [], xw_R X s_57_0 s_57_1 s_57_18 s_57_19 s_57_20 t_written a_58 t_out a_60 a_61 a_62 a_63 a_64 a_65 a_66 a_67 a_68 a_69 a_70 t_sorts t_values t_items a_74 a_75 l_76) (.inl none, xw_R X s_57_0 s_57_1 s_57_18 s_57_19 s_57_20 r.2.2 a_58 r.2.1 a_60 a_61 a_62 a_63 a_64 a_65 a_66 a_67 a_68 a_69 a_70 t_sorts t_values t_items a_74 a_75 l_76) := by
  intro t_out t_written v1 v2 r h
  unfold xf_rf_putArgument_107 at h
  refine xe_seg ok 2 (G := (fun K => K (60, xm_i60, xm_I60, 0, 0, 69, [(0, .ref 59), (1, .int v1), (2, .int (v2 + (1 : Int32)))], [], xw_R X s_57_0 s_57_1 s_57_18 s_57_19 s_57_20 t_written a_58 t_out a_60 a_61 a_62 a_63 a_64 a_65 a_66 a_67 a_68 a_69 a_70 t_sorts t_values t_items a_74 a_75 l_76))) (fun K => rfl) ?_
  refine xe_k ?_
  refine xe_sub [true, true, true] (lv' := [(0, .ref 59), (1, .int v1), (2, .int (v2 + (1 : Int32)))]) rfl ?_
  have hz := hk69 t_out t_written v1 (v2 + (1 : Int32)) _ h
  exact hz
set_option maxHeartbeats 400000 in
theorem xh_rf_putArgument_57_69 {l : Launch} {g : xr_G} (ok : xr_OK xm_P) (a_58 a_60 a_61 a_62 a_63 a_64 a_65 a_66 a_67 a_68 a_69 a_70 a_74 a_75 : Nat → Int32) (l_76 : Nat → Int64) (s_57_0 s_57_1 s_57_18 s_57_19 s_57_20 : Int32) (X : Nat → xr_C) (t_items : (Nat → Int32)) (t_sorts : (Nat → Int32)) (t_values : (Nat → Int32)) (n : Nat) : ∀ (N : Nat) (t_out : (Nat → Int32)) (t_written : Int32) (v1 : Int32) (v2 : Int32) (r : (Unit × (Nat → Int32) × Int32)), xf_rf_putArgument_69 t_items t_sorts t_values n N t_out t_written v1 v2 = some r → xV xm_P l g (60, xm_i60, xm_I60, 0, 0, 69, [(0, .ref 59), (1, .int v1), (2, .int v2)], [], xw_R X s_57_0 s_57_1 s_57_18 s_57_19 s_57_20 t_written a_58 t_out a_60 a_61 a_62 a_63 a_64 a_65 a_66 a_67 a_68 a_69 a_70 t_sorts t_values t_items a_74 a_75 l_76) (.inl none, xw_R X s_57_0 s_57_1 s_57_18 s_57_19 s_57_20 r.2.2 a_58 r.2.1 a_60 a_61 a_62 a_63 a_64 a_65 a_66 a_67 a_68 a_69 a_70 t_sorts t_values t_items a_74 a_75 l_76) := by
  intro N
  induction N with
  | zero => intro t_out t_written v1 v2 r h; cases h
  | succ N hk69 =>
    intro t_out t_written v1 v2 r h
    refine xe_seg ok 5 (G := (fun K => if xr_in v1 960 = true then K (60, xm_i60, xm_I60, 0, 0, 76, [(0, .ref 59), (1, .int v1), (2, .int v2)], [.int (t_values v1.toNatClampNeg), .int v2], xw_R X s_57_0 s_57_1 s_57_18 s_57_19 s_57_20 t_written a_58 t_out a_60 a_61 a_62 a_63 a_64 a_65 a_66 a_67 a_68 a_69 a_70 t_sorts t_values t_items a_74 a_75 l_76) else none)) (fun K => rfl) ?_
    obtain ⟨hg928, h⟩ := xn_if h
    refine xe_pos hg928 (xe_k ?_)
    refine xe_seg ok 1 (G := (fun K => if v2 < (t_values v1.toNatClampNeg) then K (60, xm_i60, xm_I60, 0, 0, 79, [(0, .ref 59), (1, .int v1), (2, .int v2)], [], xw_R X s_57_0 s_57_1 s_57_18 s_57_19 s_57_20 t_written a_58 t_out a_60 a_61 a_62 a_63 a_64 a_65 a_66 a_67 a_68 a_69 a_70 t_sorts t_values t_items a_74 a_75 l_76) else K (60, xm_i60, xm_I60, 0, 0, 113, [(0, .ref 59), (1, .int v1), (2, .int v2)], [], xw_R X s_57_0 s_57_1 s_57_18 s_57_19 s_57_20 t_written a_58 t_out a_60 a_61 a_62 a_63 a_64 a_65 a_66 a_67 a_68 a_69 a_70 t_sorts t_values t_items a_74 a_75 l_76))) (fun K => rfl) ?_
    rcases xb_if h with ⟨hc929, h⟩ | ⟨hc929, h⟩
    · refine xe_pos hc929 (xe_k ?_)
      refine xe_seg ok 8 (G := (fun K => if xr_in ((((20 : Int32)) * v1) + v2) 19200 = true then K (60, xm_i60, xm_I60, 0, 0, 90, [(0, .ref 59), (1, .int v1), (2, .int v2)], [.int (t_items ((((20 : Int32)) * v1) + v2).toNatClampNeg)], xw_R X s_57_0 s_57_1 s_57_18 s_57_19 s_57_20 t_written a_58 t_out a_60 a_61 a_62 a_63 a_64 a_65 a_66 a_67 a_68 a_69 a_70 t_sorts t_values t_items a_74 a_75 l_76) else none)) (fun K => rfl) ?_
      obtain ⟨hg930, h⟩ := xn_if h
      refine xe_pos hg930 (xe_k ?_)
      refine xe_seg ok 4 (G := (fun K => xr_back K 60 xm_i60 xm_I60 0 0 93 [(0, .ref 59), (1, .int v1), (2, .int v2), (3, .int (t_items ((((20 : Int32)) * v1) + v2).toNatClampNeg))] [] 78 true (K (58, xm_i58, xm_I58, 0, 0, 0, [(0, .ref 59), (1, .int (t_items ((((20 : Int32)) * v1) + v2).toNatClampNeg))], [], xw_R X s_57_0 s_57_1 s_57_18 s_57_19 s_57_20 t_written a_58 t_out a_60 a_61 a_62 a_63 a_64 a_65 a_66 a_67 a_68 a_69 a_70 t_sorts t_values t_items a_74 a_75 l_76)))) (fun K => rfl) ?_
      obtain ⟨q931, hq931, h⟩ := Option.bind_eq_some_iff.mp h
      have heq931 := xh_rf_put_57 (l := l) (g := g) ok a_58 a_60 a_61 a_62 a_63 a_64 a_65 a_66 a_67 a_68 a_69 a_70 t_sorts t_values t_items a_74 a_75 l_76 s_57_0 s_57_1 s_57_18 s_57_19 s_57_20 X t_out t_written (t_items ((((20 : Int32)) * v1) + v2).toNatClampNeg) _ hq931
      refine xe_call0 (ws' := xw_R X s_57_0 s_57_1 s_57_18 s_57_19 s_57_20 q931.2.2 a_58 q931.2.1 a_60 a_61 a_62 a_63 a_64 a_65 a_66 a_67 a_68 a_69 a_70 t_sorts t_values t_items a_74 a_75 l_76) (by decide) heq931 (Or.inl rfl) ?_
      refine xe_seg ok 3 (G := (fun K => if (t_items ((((20 : Int32)) * v1) + v2).toNatClampNeg) = ((39 : Int32)) then K (60, xm_i60, xm_I60, 0, 0, 102, [(0, .ref 59), (1, .int v1), (2, .int v2), (3, .int (t_items ((((20 : Int32)) * v1) + v2).toNatClampNeg))], [], xw_R X s_57_0 s_57_1 s_57_18 s_57_19 s_57_20 q931.2.2 a_58 q931.2.1 a_60 a_61 a_62 a_63 a_64 a_65 a_66 a_67 a_68 a_69 a_70 t_sorts t_values t_items a_74 a_75 l_76) else K (60, xm_i60, xm_I60, 0, 0, 107, [(0, .ref 59), (1, .int v1), (2, .int v2), (3, .int (t_items ((((20 : Int32)) * v1) + v2).toNatClampNeg))], [], xw_R X s_57_0 s_57_1 s_57_18 s_57_19 s_57_20 q931.2.2 a_58 q931.2.1 a_60 a_61 a_62 a_63 a_64 a_65 a_66 a_67 a_68 a_69 a_70 t_sorts t_values t_items a_74 a_75 l_76))) (fun K => rfl) ?_
      rcases xb_if h with ⟨hc932, h⟩ | ⟨hc932, h⟩
      · refine xe_pos hc932 (xe_k ?_)
        refine xe_seg ok 3 (G := (fun K => xr_back K 60 xm_i60 xm_I60 0 0 104 [(0, .ref 59), (1, .int v1), (2, .int v2), (3, .int (t_items ((((20 : Int32)) * v1) + v2).toNatClampNeg))] [] 78 true (K (58, xm_i58, xm_I58, 0, 0, 0, [(0, .ref 59), (1, .int (t_items ((((20 : Int32)) * v1) + v2).toNatClampNeg))], [], xw_R X s_57_0 s_57_1 s_57_18 s_57_19 s_57_20 q931.2.2 a_58 q931.2.1 a_60 a_61 a_62 a_63 a_64 a_65 a_66 a_67 a_68 a_69 a_70 t_sorts t_values t_items a_74 a_75 l_76)))) (fun K => rfl) ?_
        obtain ⟨q933, hq933, h⟩ := Option.bind_eq_some_iff.mp h
        have heq933 := xh_rf_put_57 (l := l) (g := g) ok a_58 a_60 a_61 a_62 a_63 a_64 a_65 a_66 a_67 a_68 a_69 a_70 t_sorts t_values t_items a_74 a_75 l_76 s_57_0 s_57_1 s_57_18 s_57_19 s_57_20 X q931.2.1 q931.2.2 (t_items ((((20 : Int32)) * v1) + v2).toNatClampNeg) _ hq933
        refine xe_call0 (ws' := xw_R X s_57_0 s_57_1 s_57_18 s_57_19 s_57_20 q933.2.2 a_58 q933.2.1 a_60 a_61 a_62 a_63 a_64 a_65 a_66 a_67 a_68 a_69 a_70 t_sorts t_values t_items a_74 a_75 l_76) (by decide) heq933 (Or.inl rfl) ?_
        refine xe_sub [true, true, true, false] (lv' := [(0, .ref 59), (1, .int v1), (2, .int v2)]) rfl ?_
        have hz := xh_rf_putArgument_57_107 (l := l) (g := g) ok a_58 a_60 a_61 a_62 a_63 a_64 a_65 a_66 a_67 a_68 a_69 a_70 a_74 a_75 l_76 s_57_0 s_57_1 s_57_18 s_57_19 s_57_20 X t_items t_sorts t_values hk69 n q933.2.1 q933.2.2 v1 v2 _ h
        exact hz
      · refine xe_neg hc932 (xe_k ?_)
        refine xe_sub [true, true, true, false] (lv' := [(0, .ref 59), (1, .int v1), (2, .int v2)]) rfl ?_
        have hz := xh_rf_putArgument_57_107 (l := l) (g := g) ok a_58 a_60 a_61 a_62 a_63 a_64 a_65 a_66 a_67 a_68 a_69 a_70 a_74 a_75 l_76 s_57_0 s_57_1 s_57_18 s_57_19 s_57_20 X t_items t_sorts t_values hk69 n q931.2.1 q931.2.2 v1 v2 _ h
        exact hz
    · refine xe_neg hc929 (xe_k ?_)
      refine xe_seg ok 3 (G := (fun K => xr_back K 60 xm_i60 xm_I60 0 0 116 [(0, .ref 59), (1, .int v1), (2, .int v2)] [] 78 true (K (58, xm_i58, xm_I58, 0, 0, 0, [(0, .ref 59), (1, .int ((39 : Int32)))], [], xw_R X s_57_0 s_57_1 s_57_18 s_57_19 s_57_20 t_written a_58 t_out a_60 a_61 a_62 a_63 a_64 a_65 a_66 a_67 a_68 a_69 a_70 t_sorts t_values t_items a_74 a_75 l_76)))) (fun K => rfl) ?_
      obtain ⟨q934, hq934, h⟩ := Option.bind_eq_some_iff.mp h
      have heq934 := xh_rf_put_57 (l := l) (g := g) ok a_58 a_60 a_61 a_62 a_63 a_64 a_65 a_66 a_67 a_68 a_69 a_70 t_sorts t_values t_items a_74 a_75 l_76 s_57_0 s_57_1 s_57_18 s_57_19 s_57_20 X t_out t_written ((39 : Int32)) _ hq934
      refine xe_call0 (ws' := xw_R X s_57_0 s_57_1 s_57_18 s_57_19 s_57_20 q934.2.2 a_58 q934.2.1 a_60 a_61 a_62 a_63 a_64 a_65 a_66 a_67 a_68 a_69 a_70 t_sorts t_values t_items a_74 a_75 l_76) (by decide) heq934 (Or.inl rfl) ?_
      refine xe_seg ok 1 (G := (fun K => K (60, xm_i60, xm_I60, 0, 0, 269, [(0, .ref 59), (1, .int v1), (2, .int v2)], [], xw_R X s_57_0 s_57_1 s_57_18 s_57_19 s_57_20 q934.2.2 a_58 q934.2.1 a_60 a_61 a_62 a_63 a_64 a_65 a_66 a_67 a_68 a_69 a_70 t_sorts t_values t_items a_74 a_75 l_76))) (fun K => rfl) ?_
      refine xe_k ?_
      refine xe_sub [false, false, false] (lv' := []) rfl ?_
      have hz := xh_rf_putArgument_57_269 (l := l) (g := g) ok a_58 a_60 a_61 a_62 a_63 a_64 a_65 a_66 a_67 a_68 a_69 a_70 a_74 a_75 l_76 s_57_0 s_57_1 s_57_18 s_57_19 s_57_20 X t_items t_sorts t_values n q934.2.1 q934.2.2 _ h
      exact hz
set_option maxHeartbeats 400000 in
theorem xh_rf_putArgument_57_242 {l : Launch} {g : xr_G} (ok : xr_OK xm_P) (a_58 a_60 a_61 a_62 a_63 a_64 a_65 a_66 a_67 a_68 a_69 a_70 a_74 a_75 : Nat → Int32) (l_76 : Nat → Int64) (s_57_0 s_57_1 s_57_18 s_57_19 s_57_20 : Int32) (X : Nat → xr_C) (t_items : (Nat → Int32)) (t_sorts : (Nat → Int32)) (t_values : (Nat → Int32)) {k206 : (Nat → Int32) → Int32 → Int32 → Int32 → Option (Unit × (Nat → Int32) × Int32)} (hk206 : ∀ (t_out : (Nat → Int32)) (t_written : Int32) (v1 : Int32) (v2 : Int32) (r : (Unit × (Nat → Int32) × Int32)), k206 t_out t_written v1 v2 = some r → xV xm_P l g (60, xm_i60, xm_I60, 0, 0, 206, [(0, .ref 59), (1, .int v1), (2, .int v2)], [], xw_R X s_57_0 s_57_1 s_57_18 s_57_19 s_57_20 t_written a_58 t_out a_60 a_61 a_62 a_63 a_64 a_65 a_66 a_67 a_68 a_69 a_70 t_sorts t_values t_items a_74 a_75 l_76) (.inl none, xw_R X s_57_0 s_57_1 s_57_18 s_57_19 s_57_20 r.2.2 a_58 r.2.1 a_60 a_61 a_62 a_63 a_64 a_65 a_66 a_67 a_68 a_69 a_70 t_sorts t_values t_items a_74 a_75 l_76)) (n : Nat) : ∀ (t_out : (Nat → Int32)) (t_written : Int32) (v1 : Int32) (v2 : Int32) (r : (Unit × (Nat → Int32) × Int32)), xf_rf_putArgument_242 t_items t_sorts t_values k206 n t_out t_written v1 v2 = some r → xV xm_P l g (60, xm_i60, xm_I60, 0, 0, 242, [(0, .ref 59), (1, .int v1), (2, .int v2)], [], xw_R X s_57_0 s_57_1 s_57_18 s_57_19 s_57_20 t_written a_58 t_out a_60 a_61 a_62 a_63 a_64 a_65 a_66 a_67 a_68 a_69 a_70 t_sorts t_values t_items a_74 a_75 l_76) (.inl none, xw_R X s_57_0 s_57_1 s_57_18 s_57_19 s_57_20 r.2.2 a_58 r.2.1 a_60 a_61 a_62 a_63 a_64 a_65 a_66 a_67 a_68 a_69 a_70 t_sorts t_values t_items a_74 a_75 l_76) := by
  intro t_out t_written v1 v2 r h
  unfold xf_rf_putArgument_242 at h
  refine xe_seg ok 9 (G := (fun K => if xr_in ((((20 : Int32)) * v1) + v2) 19200 = true then K (60, xm_i60, xm_I60, 0, 0, 254, [(0, .ref 59), (1, .int v1), (2, .int v2)], [.int (t_items ((((20 : Int32)) * v1) + v2).toNatClampNeg), .ref 59], xw_R X s_57_0 s_57_1 s_57_18 s_57_19 s_57_20 t_written a_58 t_out a_60 a_61 a_62 a_63 a_64 a_65 a_66 a_67 a_68 a_69 a_70 t_sorts t_values t_items a_74 a_75 l_76) else none)) (fun K => rfl) ?_
  obtain ⟨hg948, h⟩ := xn_if h
  refine xe_pos hg948 (xe_k ?_)
  refine xe_seg ok 1 (G := (fun K => xr_back K 60 xm_i60 xm_I60 0 0 254 [(0, .ref 59), (1, .int v1), (2, .int v2)] [] 78 true (K (59, xm_i59, xm_I59, 0, 0, 0, [(0, .ref 59), (1, .int (t_items ((((20 : Int32)) * v1) + v2).toNatClampNeg))], [], xw_R X s_57_0 s_57_1 s_57_18 s_57_19 s_57_20 t_written a_58 t_out a_60 a_61 a_62 a_63 a_64 a_65 a_66 a_67 a_68 a_69 a_70 t_sorts t_values t_items a_74 a_75 l_76)))) (fun K => rfl) ?_
  obtain ⟨q949, hq949, h⟩ := Option.bind_eq_some_iff.mp h
  have heq949 := xh_rf_putNumber_57 (l := l) (g := g) ok a_58 a_60 a_61 a_62 a_63 a_64 a_65 a_66 a_67 a_68 a_69 a_70 t_sorts t_values t_items a_74 a_75 l_76 s_57_0 s_57_1 s_57_18 s_57_19 s_57_20 X n t_out t_written (t_items ((((20 : Int32)) * v1) + v2).toNatClampNeg) _ hq949
  refine xe_call0 (ws' := xw_R X s_57_0 s_57_1 s_57_18 s_57_19 s_57_20 q949.2.2 a_58 q949.2.1 a_60 a_61 a_62 a_63 a_64 a_65 a_66 a_67 a_68 a_69 a_70 t_sorts t_values t_items a_74 a_75 l_76) (by decide) heq949 (Or.inl rfl) ?_
  refine xe_seg ok 2 (G := (fun K => K (60, xm_i60, xm_I60, 0, 0, 206, [(0, .ref 59), (1, .int v1), (2, .int (v2 + (1 : Int32)))], [], xw_R X s_57_0 s_57_1 s_57_18 s_57_19 s_57_20 q949.2.2 a_58 q949.2.1 a_60 a_61 a_62 a_63 a_64 a_65 a_66 a_67 a_68 a_69 a_70 t_sorts t_values t_items a_74 a_75 l_76))) (fun K => rfl) ?_
  refine xe_k ?_
  refine xe_sub [true, true, true] (lv' := [(0, .ref 59), (1, .int v1), (2, .int (v2 + (1 : Int32)))]) rfl ?_
  have hz := hk206 q949.2.1 q949.2.2 v1 (v2 + (1 : Int32)) _ h
  exact hz
set_option maxHeartbeats 400000 in
theorem xh_rf_putArgument_57_226 {l : Launch} {g : xr_G} (ok : xr_OK xm_P) (a_58 a_60 a_61 a_62 a_63 a_64 a_65 a_66 a_67 a_68 a_69 a_70 a_74 a_75 : Nat → Int32) (l_76 : Nat → Int64) (s_57_0 s_57_1 s_57_18 s_57_19 s_57_20 : Int32) (X : Nat → xr_C) (t_items : (Nat → Int32)) (t_sorts : (Nat → Int32)) (t_values : (Nat → Int32)) {k206 : (Nat → Int32) → Int32 → Int32 → Int32 → Option (Unit × (Nat → Int32) × Int32)} (hk206 : ∀ (t_out : (Nat → Int32)) (t_written : Int32) (v1 : Int32) (v2 : Int32) (r : (Unit × (Nat → Int32) × Int32)), k206 t_out t_written v1 v2 = some r → xV xm_P l g (60, xm_i60, xm_I60, 0, 0, 206, [(0, .ref 59), (1, .int v1), (2, .int v2)], [], xw_R X s_57_0 s_57_1 s_57_18 s_57_19 s_57_20 t_written a_58 t_out a_60 a_61 a_62 a_63 a_64 a_65 a_66 a_67 a_68 a_69 a_70 t_sorts t_values t_items a_74 a_75 l_76) (.inl none, xw_R X s_57_0 s_57_1 s_57_18 s_57_19 s_57_20 r.2.2 a_58 r.2.1 a_60 a_61 a_62 a_63 a_64 a_65 a_66 a_67 a_68 a_69 a_70 t_sorts t_values t_items a_74 a_75 l_76)) (n : Nat) : ∀ (t_out : (Nat → Int32)) (t_written : Int32) (v1 : Int32) (v2 : Int32) (r : (Unit × (Nat → Int32) × Int32)), xf_rf_putArgument_226 t_items t_sorts t_values k206 n t_out t_written v1 v2 = some r → xV xm_P l g (60, xm_i60, xm_I60, 0, 0, 226, [(0, .ref 59), (1, .int v1), (2, .int v2)], [], xw_R X s_57_0 s_57_1 s_57_18 s_57_19 s_57_20 t_written a_58 t_out a_60 a_61 a_62 a_63 a_64 a_65 a_66 a_67 a_68 a_69 a_70 t_sorts t_values t_items a_74 a_75 l_76) (.inl none, xw_R X s_57_0 s_57_1 s_57_18 s_57_19 s_57_20 r.2.2 a_58 r.2.1 a_60 a_61 a_62 a_63 a_64 a_65 a_66 a_67 a_68 a_69 a_70 t_sorts t_values t_items a_74 a_75 l_76) := by
  intro t_out t_written v1 v2 r h
  unfold xf_rf_putArgument_226 at h
  refine xe_seg ok 4 (G := (fun K => if xr_in v1 960 = true then K (60, xm_i60, xm_I60, 0, 0, 232, [(0, .ref 59), (1, .int v1), (2, .int v2)], [.int (t_sorts v1.toNatClampNeg)], xw_R X s_57_0 s_57_1 s_57_18 s_57_19 s_57_20 t_written a_58 t_out a_60 a_61 a_62 a_63 a_64 a_65 a_66 a_67 a_68 a_69 a_70 t_sorts t_values t_items a_74 a_75 l_76) else none)) (fun K => rfl) ?_
  obtain ⟨hg945, h⟩ := xn_if h
  refine xe_pos hg945 (xe_k ?_)
  refine xe_seg ok 2 (G := (fun K => if (t_sorts v1.toNatClampNeg) = ((4 : Int32)) then K (60, xm_i60, xm_I60, 0, 0, 236, [(0, .ref 59), (1, .int v1), (2, .int v2)], [], xw_R X s_57_0 s_57_1 s_57_18 s_57_19 s_57_20 t_written a_58 t_out a_60 a_61 a_62 a_63 a_64 a_65 a_66 a_67 a_68 a_69 a_70 t_sorts t_values t_items a_74 a_75 l_76) else K (60, xm_i60, xm_I60, 0, 0, 242, [(0, .ref 59), (1, .int v1), (2, .int v2)], [], xw_R X s_57_0 s_57_1 s_57_18 s_57_19 s_57_20 t_written a_58 t_out a_60 a_61 a_62 a_63 a_64 a_65 a_66 a_67 a_68 a_69 a_70 t_sorts t_values t_items a_74 a_75 l_76))) (fun K => rfl) ?_
  rcases xb_if h with ⟨hc946, h⟩ | ⟨hc946, h⟩
  · refine xe_pos hc946 (xe_k ?_)
    refine xe_seg ok 3 (G := (fun K => xr_back K 60 xm_i60 xm_I60 0 0 239 [(0, .ref 59), (1, .int v1), (2, .int v2)] [] 78 true (K (58, xm_i58, xm_I58, 0, 0, 0, [(0, .ref 59), (1, .int ((35 : Int32)))], [], xw_R X s_57_0 s_57_1 s_57_18 s_57_19 s_57_20 t_written a_58 t_out a_60 a_61 a_62 a_63 a_64 a_65 a_66 a_67 a_68 a_69 a_70 t_sorts t_values t_items a_74 a_75 l_76)))) (fun K => rfl) ?_
    obtain ⟨q947, hq947, h⟩ := Option.bind_eq_some_iff.mp h
    have heq947 := xh_rf_put_57 (l := l) (g := g) ok a_58 a_60 a_61 a_62 a_63 a_64 a_65 a_66 a_67 a_68 a_69 a_70 t_sorts t_values t_items a_74 a_75 l_76 s_57_0 s_57_1 s_57_18 s_57_19 s_57_20 X t_out t_written ((35 : Int32)) _ hq947
    refine xe_call0 (ws' := xw_R X s_57_0 s_57_1 s_57_18 s_57_19 s_57_20 q947.2.2 a_58 q947.2.1 a_60 a_61 a_62 a_63 a_64 a_65 a_66 a_67 a_68 a_69 a_70 t_sorts t_values t_items a_74 a_75 l_76) (by decide) heq947 (Or.inl rfl) ?_
    refine xe_sub [true, true, true] (lv' := [(0, .ref 59), (1, .int v1), (2, .int v2)]) rfl ?_
    have hz := xh_rf_putArgument_57_242 (l := l) (g := g) ok a_58 a_60 a_61 a_62 a_63 a_64 a_65 a_66 a_67 a_68 a_69 a_70 a_74 a_75 l_76 s_57_0 s_57_1 s_57_18 s_57_19 s_57_20 X t_items t_sorts t_values hk206 n q947.2.1 q947.2.2 v1 v2 _ h
    exact hz
  · refine xe_neg hc946 (xe_k ?_)
    refine xe_sub [true, true, true] (lv' := [(0, .ref 59), (1, .int v1), (2, .int v2)]) rfl ?_
    have hz := xh_rf_putArgument_57_242 (l := l) (g := g) ok a_58 a_60 a_61 a_62 a_63 a_64 a_65 a_66 a_67 a_68 a_69 a_70 a_74 a_75 l_76 s_57_0 s_57_1 s_57_18 s_57_19 s_57_20 X t_items t_sorts t_values hk206 n t_out t_written v1 v2 _ h
    exact hz
set_option maxHeartbeats 400000 in
theorem xh_rf_putArgument_57_206 {l : Launch} {g : xr_G} (ok : xr_OK xm_P) (a_58 a_60 a_61 a_62 a_63 a_64 a_65 a_66 a_67 a_68 a_69 a_70 a_74 a_75 : Nat → Int32) (l_76 : Nat → Int64) (s_57_0 s_57_1 s_57_18 s_57_19 s_57_20 : Int32) (X : Nat → xr_C) (t_items : (Nat → Int32)) (t_sorts : (Nat → Int32)) (t_values : (Nat → Int32)) (n : Nat) : ∀ (N : Nat) (t_out : (Nat → Int32)) (t_written : Int32) (v1 : Int32) (v2 : Int32) (r : (Unit × (Nat → Int32) × Int32)), xf_rf_putArgument_206 t_items t_sorts t_values n N t_out t_written v1 v2 = some r → xV xm_P l g (60, xm_i60, xm_I60, 0, 0, 206, [(0, .ref 59), (1, .int v1), (2, .int v2)], [], xw_R X s_57_0 s_57_1 s_57_18 s_57_19 s_57_20 t_written a_58 t_out a_60 a_61 a_62 a_63 a_64 a_65 a_66 a_67 a_68 a_69 a_70 t_sorts t_values t_items a_74 a_75 l_76) (.inl none, xw_R X s_57_0 s_57_1 s_57_18 s_57_19 s_57_20 r.2.2 a_58 r.2.1 a_60 a_61 a_62 a_63 a_64 a_65 a_66 a_67 a_68 a_69 a_70 t_sorts t_values t_items a_74 a_75 l_76) := by
  intro N
  induction N with
  | zero => intro t_out t_written v1 v2 r h; cases h
  | succ N hk206 =>
    intro t_out t_written v1 v2 r h
    refine xe_seg ok 5 (G := (fun K => if xr_in v1 960 = true then K (60, xm_i60, xm_I60, 0, 0, 213, [(0, .ref 59), (1, .int v1), (2, .int v2)], [.int (t_values v1.toNatClampNeg), .int v2], xw_R X s_57_0 s_57_1 s_57_18 s_57_19 s_57_20 t_written a_58 t_out a_60 a_61 a_62 a_63 a_64 a_65 a_66 a_67 a_68 a_69 a_70 t_sorts t_values t_items a_74 a_75 l_76) else none)) (fun K => rfl) ?_
    obtain ⟨hg941, h⟩ := xn_if h
    refine xe_pos hg941 (xe_k ?_)
    refine xe_seg ok 1 (G := (fun K => if v2 < (t_values v1.toNatClampNeg) then K (60, xm_i60, xm_I60, 0, 0, 216, [(0, .ref 59), (1, .int v1), (2, .int v2)], [], xw_R X s_57_0 s_57_1 s_57_18 s_57_19 s_57_20 t_written a_58 t_out a_60 a_61 a_62 a_63 a_64 a_65 a_66 a_67 a_68 a_69 a_70 t_sorts t_values t_items a_74 a_75 l_76) else K (60, xm_i60, xm_I60, 0, 0, 263, [(0, .ref 59), (1, .int v1), (2, .int v2)], [], xw_R X s_57_0 s_57_1 s_57_18 s_57_19 s_57_20 t_written a_58 t_out a_60 a_61 a_62 a_63 a_64 a_65 a_66 a_67 a_68 a_69 a_70 t_sorts t_values t_items a_74 a_75 l_76))) (fun K => rfl) ?_
    rcases xb_if h with ⟨hc942, h⟩ | ⟨hc942, h⟩
    · refine xe_pos hc942 (xe_k ?_)
      refine xe_seg ok 2 (G := (fun K => if (0 : Int32) < v2 then K (60, xm_i60, xm_I60, 0, 0, 220, [(0, .ref 59), (1, .int v1), (2, .int v2)], [], xw_R X s_57_0 s_57_1 s_57_18 s_57_19 s_57_20 t_written a_58 t_out a_60 a_61 a_62 a_63 a_64 a_65 a_66 a_67 a_68 a_69 a_70 t_sorts t_values t_items a_74 a_75 l_76) else K (60, xm_i60, xm_I60, 0, 0, 226, [(0, .ref 59), (1, .int v1), (2, .int v2)], [], xw_R X s_57_0 s_57_1 s_57_18 s_57_19 s_57_20 t_written a_58 t_out a_60 a_61 a_62 a_63 a_64 a_65 a_66 a_67 a_68 a_69 a_70 t_sorts t_values t_items a_74 a_75 l_76))) (fun K => rfl) ?_
      rcases xb_if h with ⟨hc943, h⟩ | ⟨hc943, h⟩
      · refine xe_pos hc943 (xe_k ?_)
        refine xe_seg ok 3 (G := (fun K => xr_back K 60 xm_i60 xm_I60 0 0 223 [(0, .ref 59), (1, .int v1), (2, .int v2)] [] 78 true (K (58, xm_i58, xm_I58, 0, 0, 0, [(0, .ref 59), (1, .int ((44 : Int32)))], [], xw_R X s_57_0 s_57_1 s_57_18 s_57_19 s_57_20 t_written a_58 t_out a_60 a_61 a_62 a_63 a_64 a_65 a_66 a_67 a_68 a_69 a_70 t_sorts t_values t_items a_74 a_75 l_76)))) (fun K => rfl) ?_
        obtain ⟨q944, hq944, h⟩ := Option.bind_eq_some_iff.mp h
        have heq944 := xh_rf_put_57 (l := l) (g := g) ok a_58 a_60 a_61 a_62 a_63 a_64 a_65 a_66 a_67 a_68 a_69 a_70 t_sorts t_values t_items a_74 a_75 l_76 s_57_0 s_57_1 s_57_18 s_57_19 s_57_20 X t_out t_written ((44 : Int32)) _ hq944
        refine xe_call0 (ws' := xw_R X s_57_0 s_57_1 s_57_18 s_57_19 s_57_20 q944.2.2 a_58 q944.2.1 a_60 a_61 a_62 a_63 a_64 a_65 a_66 a_67 a_68 a_69 a_70 t_sorts t_values t_items a_74 a_75 l_76) (by decide) heq944 (Or.inl rfl) ?_
        refine xe_sub [true, true, true] (lv' := [(0, .ref 59), (1, .int v1), (2, .int v2)]) rfl ?_
        have hz := xh_rf_putArgument_57_226 (l := l) (g := g) ok a_58 a_60 a_61 a_62 a_63 a_64 a_65 a_66 a_67 a_68 a_69 a_70 a_74 a_75 l_76 s_57_0 s_57_1 s_57_18 s_57_19 s_57_20 X t_items t_sorts t_values hk206 n q944.2.1 q944.2.2 v1 v2 _ h
        exact hz
      · refine xe_neg hc943 (xe_k ?_)
        refine xe_sub [true, true, true] (lv' := [(0, .ref 59), (1, .int v1), (2, .int v2)]) rfl ?_
        have hz := xh_rf_putArgument_57_226 (l := l) (g := g) ok a_58 a_60 a_61 a_62 a_63 a_64 a_65 a_66 a_67 a_68 a_69 a_70 a_74 a_75 l_76 s_57_0 s_57_1 s_57_18 s_57_19 s_57_20 X t_items t_sorts t_values hk206 n t_out t_written v1 v2 _ h
        exact hz
    · refine xe_neg hc942 (xe_k ?_)
      refine xe_seg ok 3 (G := (fun K => xr_back K 60 xm_i60 xm_I60 0 0 266 [(0, .ref 59), (1, .int v1), (2, .int v2)] [] 78 true (K (58, xm_i58, xm_I58, 0, 0, 0, [(0, .ref 59), (1, .int ((41 : Int32)))], [], xw_R X s_57_0 s_57_1 s_57_18 s_57_19 s_57_20 t_written a_58 t_out a_60 a_61 a_62 a_63 a_64 a_65 a_66 a_67 a_68 a_69 a_70 t_sorts t_values t_items a_74 a_75 l_76)))) (fun K => rfl) ?_
      obtain ⟨q950, hq950, h⟩ := Option.bind_eq_some_iff.mp h
      have heq950 := xh_rf_put_57 (l := l) (g := g) ok a_58 a_60 a_61 a_62 a_63 a_64 a_65 a_66 a_67 a_68 a_69 a_70 t_sorts t_values t_items a_74 a_75 l_76 s_57_0 s_57_1 s_57_18 s_57_19 s_57_20 X t_out t_written ((41 : Int32)) _ hq950
      refine xe_call0 (ws' := xw_R X s_57_0 s_57_1 s_57_18 s_57_19 s_57_20 q950.2.2 a_58 q950.2.1 a_60 a_61 a_62 a_63 a_64 a_65 a_66 a_67 a_68 a_69 a_70 t_sorts t_values t_items a_74 a_75 l_76) (by decide) heq950 (Or.inl rfl) ?_
      refine xe_sub [false, false, false] (lv' := []) rfl ?_
      have hz := xh_rf_putArgument_57_269 (l := l) (g := g) ok a_58 a_60 a_61 a_62 a_63 a_64 a_65 a_66 a_67 a_68 a_69 a_70 a_74 a_75 l_76 s_57_0 s_57_1 s_57_18 s_57_19 s_57_20 X t_items t_sorts t_values n q950.2.1 q950.2.2 _ h
      exact hz
set_option maxHeartbeats 400000 in
theorem xh_rf_putArgument_57_198 {l : Launch} {g : xr_G} (ok : xr_OK xm_P) (a_58 a_60 a_61 a_62 a_63 a_64 a_65 a_66 a_67 a_68 a_69 a_70 a_74 a_75 : Nat → Int32) (l_76 : Nat → Int64) (s_57_0 s_57_1 s_57_18 s_57_19 s_57_20 : Int32) (X : Nat → xr_C) (t_items : (Nat → Int32)) (t_sorts : (Nat → Int32)) (t_values : (Nat → Int32)) (n : Nat) : ∀ (t_out : (Nat → Int32)) (t_written : Int32) (v1 : Int32) (r : (Unit × (Nat → Int32) × Int32)), xf_rf_putArgument_198 t_items t_sorts t_values n t_out t_written v1 = some r → xV xm_P l g (60, xm_i60, xm_I60, 0, 0, 198, [(0, .ref 59), (1, .int v1)], [], xw_R X s_57_0 s_57_1 s_57_18 s_57_19 s_57_20 t_written a_58 t_out a_60 a_61 a_62 a_63 a_64 a_65 a_66 a_67 a_68 a_69 a_70 t_sorts t_values t_items a_74 a_75 l_76) (.inl none, xw_R X s_57_0 s_57_1 s_57_18 s_57_19 s_57_20 r.2.2 a_58 r.2.1 a_60 a_61 a_62 a_63 a_64 a_65 a_66 a_67 a_68 a_69 a_70 t_sorts t_values t_items a_74 a_75 l_76) := by
  intro t_out t_written v1 r h
  unfold xf_rf_putArgument_198 at h
  refine xe_seg ok 3 (G := (fun K => xr_back K 60 xm_i60 xm_I60 0 0 201 [(0, .ref 59), (1, .int v1)] [] 78 true (K (58, xm_i58, xm_I58, 0, 0, 0, [(0, .ref 59), (1, .int ((40 : Int32)))], [], xw_R X s_57_0 s_57_1 s_57_18 s_57_19 s_57_20 t_written a_58 t_out a_60 a_61 a_62 a_63 a_64 a_65 a_66 a_67 a_68 a_69 a_70 t_sorts t_values t_items a_74 a_75 l_76)))) (fun K => rfl) ?_
  obtain ⟨q940, hq940, h⟩ := Option.bind_eq_some_iff.mp h
  have heq940 := xh_rf_put_57 (l := l) (g := g) ok a_58 a_60 a_61 a_62 a_63 a_64 a_65 a_66 a_67 a_68 a_69 a_70 t_sorts t_values t_items a_74 a_75 l_76 s_57_0 s_57_1 s_57_18 s_57_19 s_57_20 X t_out t_written ((40 : Int32)) _ hq940
  refine xe_call0 (ws' := xw_R X s_57_0 s_57_1 s_57_18 s_57_19 s_57_20 q940.2.2 a_58 q940.2.1 a_60 a_61 a_62 a_63 a_64 a_65 a_66 a_67 a_68 a_69 a_70 t_sorts t_values t_items a_74 a_75 l_76) (by decide) heq940 (Or.inl rfl) ?_
  refine xe_seg ok 2 (G := (fun K => K (60, xm_i60, xm_I60, 0, 0, 206, [(0, .ref 59), (1, .int v1), (2, .int ((0 : Int32)))], [], xw_R X s_57_0 s_57_1 s_57_18 s_57_19 s_57_20 q940.2.2 a_58 q940.2.1 a_60 a_61 a_62 a_63 a_64 a_65 a_66 a_67 a_68 a_69 a_70 t_sorts t_values t_items a_74 a_75 l_76))) (fun K => rfl) ?_
  refine xe_k ?_
  refine xe_sub [true, true, true] (lv' := [(0, .ref 59), (1, .int v1), (2, .int ((0 : Int32)))]) rfl ?_
  have hz := xh_rf_putArgument_57_206 (l := l) (g := g) ok a_58 a_60 a_61 a_62 a_63 a_64 a_65 a_66 a_67 a_68 a_69 a_70 a_74 a_75 l_76 s_57_0 s_57_1 s_57_18 s_57_19 s_57_20 X t_items t_sorts t_values n n q940.2.1 q940.2.2 v1 ((0 : Int32)) _ h
  exact hz
set_option maxHeartbeats 400000 in
theorem xh_rf_putArgument_57_149 {l : Launch} {g : xr_G} (ok : xr_OK xm_P) (a_58 a_60 a_61 a_62 a_63 a_64 a_65 a_66 a_67 a_68 a_69 a_70 a_74 a_75 : Nat → Int32) (l_76 : Nat → Int64) (s_57_0 s_57_1 s_57_18 s_57_19 s_57_20 : Int32) (X : Nat → xr_C) (t_items : (Nat → Int32)) (t_sorts : (Nat → Int32)) (t_values : (Nat → Int32)) (n : Nat) : ∀ (N : Nat) (t_out : (Nat → Int32)) (t_written : Int32) (v1 : Int32) (v2 : Int32) (r : (Unit × (Nat → Int32) × Int32)), xf_rf_putArgument_149 t_items t_sorts t_values n N t_out t_written v1 v2 = some r → xV xm_P l g (60, xm_i60, xm_I60, 0, 0, 149, [(0, .ref 59), (1, .int v1), (2, .int v2)], [], xw_R X s_57_0 s_57_1 s_57_18 s_57_19 s_57_20 t_written a_58 t_out a_60 a_61 a_62 a_63 a_64 a_65 a_66 a_67 a_68 a_69 a_70 t_sorts t_values t_items a_74 a_75 l_76) (.inl none, xw_R X s_57_0 s_57_1 s_57_18 s_57_19 s_57_20 r.2.2 a_58 r.2.1 a_60 a_61 a_62 a_63 a_64 a_65 a_66 a_67 a_68 a_69 a_70 t_sorts t_values t_items a_74 a_75 l_76) := by
  intro N
  induction N with
  | zero => intro t_out t_written v1 v2 r h; cases h
  | succ N hk149 =>
    intro t_out t_written v1 v2 r h
    refine xe_seg ok 5 (G := (fun K => if xr_in v1 960 = true then K (60, xm_i60, xm_I60, 0, 0, 156, [(0, .ref 59), (1, .int v1), (2, .int v2)], [.int (t_values v1.toNatClampNeg), .int v2], xw_R X s_57_0 s_57_1 s_57_18 s_57_19 s_57_20 t_written a_58 t_out a_60 a_61 a_62 a_63 a_64 a_65 a_66 a_67 a_68 a_69 a_70 t_sorts t_values t_items a_74 a_75 l_76) else none)) (fun K => rfl) ?_
    obtain ⟨hg954, h⟩ := xn_if h
    refine xe_pos hg954 (xe_k ?_)
    refine xe_seg ok 1 (G := (fun K => if v2 < (t_values v1.toNatClampNeg) then K (60, xm_i60, xm_I60, 0, 0, 159, [(0, .ref 59), (1, .int v1), (2, .int v2)], [], xw_R X s_57_0 s_57_1 s_57_18 s_57_19 s_57_20 t_written a_58 t_out a_60 a_61 a_62 a_63 a_64 a_65 a_66 a_67 a_68 a_69 a_70 t_sorts t_values t_items a_74 a_75 l_76) else K (60, xm_i60, xm_I60, 0, 0, 180, [(0, .ref 59), (1, .int v1), (2, .int v2)], [], xw_R X s_57_0 s_57_1 s_57_18 s_57_19 s_57_20 t_written a_58 t_out a_60 a_61 a_62 a_63 a_64 a_65 a_66 a_67 a_68 a_69 a_70 t_sorts t_values t_items a_74 a_75 l_76))) (fun K => rfl) ?_
    rcases xb_if h with ⟨hc955, h⟩ | ⟨hc955, h⟩
    · refine xe_pos hc955 (xe_k ?_)
      refine xe_seg ok 9 (G := (fun K => if xr_in ((((20 : Int32)) * v1) + v2) 19200 = true then K (60, xm_i60, xm_I60, 0, 0, 171, [(0, .ref 59), (1, .int v1), (2, .int v2)], [.int (t_items ((((20 : Int32)) * v1) + v2).toNatClampNeg), .ref 59], xw_R X s_57_0 s_57_1 s_57_18 s_57_19 s_57_20 t_written a_58 t_out a_60 a_61 a_62 a_63 a_64 a_65 a_66 a_67 a_68 a_69 a_70 t_sorts t_values t_items a_74 a_75 l_76) else none)) (fun K => rfl) ?_
      obtain ⟨hg956, h⟩ := xn_if h
      refine xe_pos hg956 (xe_k ?_)
      refine xe_seg ok 1 (G := (fun K => xr_back K 60 xm_i60 xm_I60 0 0 171 [(0, .ref 59), (1, .int v1), (2, .int v2)] [] 78 true (K (58, xm_i58, xm_I58, 0, 0, 0, [(0, .ref 59), (1, .int (t_items ((((20 : Int32)) * v1) + v2).toNatClampNeg))], [], xw_R X s_57_0 s_57_1 s_57_18 s_57_19 s_57_20 t_written a_58 t_out a_60 a_61 a_62 a_63 a_64 a_65 a_66 a_67 a_68 a_69 a_70 t_sorts t_values t_items a_74 a_75 l_76)))) (fun K => rfl) ?_
      obtain ⟨q957, hq957, h⟩ := Option.bind_eq_some_iff.mp h
      have heq957 := xh_rf_put_57 (l := l) (g := g) ok a_58 a_60 a_61 a_62 a_63 a_64 a_65 a_66 a_67 a_68 a_69 a_70 t_sorts t_values t_items a_74 a_75 l_76 s_57_0 s_57_1 s_57_18 s_57_19 s_57_20 X t_out t_written (t_items ((((20 : Int32)) * v1) + v2).toNatClampNeg) _ hq957
      refine xe_call0 (ws' := xw_R X s_57_0 s_57_1 s_57_18 s_57_19 s_57_20 q957.2.2 a_58 q957.2.1 a_60 a_61 a_62 a_63 a_64 a_65 a_66 a_67 a_68 a_69 a_70 t_sorts t_values t_items a_74 a_75 l_76) (by decide) heq957 (Or.inl rfl) ?_
      refine xe_seg ok 2 (G := (fun K => K (60, xm_i60, xm_I60, 0, 0, 149, [(0, .ref 59), (1, .int v1), (2, .int (v2 + (1 : Int32)))], [], xw_R X s_57_0 s_57_1 s_57_18 s_57_19 s_57_20 q957.2.2 a_58 q957.2.1 a_60 a_61 a_62 a_63 a_64 a_65 a_66 a_67 a_68 a_69 a_70 t_sorts t_values t_items a_74 a_75 l_76))) (fun K => rfl) ?_
      refine xe_k ?_
      refine xe_sub [true, true, true] (lv' := [(0, .ref 59), (1, .int v1), (2, .int (v2 + (1 : Int32)))]) rfl ?_
      have hz := hk149 q957.2.1 q957.2.2 v1 (v2 + (1 : Int32)) _ h
      exact hz
    · refine xe_neg hc955 (xe_k ?_)
      refine xe_seg ok 3 (G := (fun K => xr_back K 60 xm_i60 xm_I60 0 0 183 [(0, .ref 59), (1, .int v1), (2, .int v2)] [] 78 true (K (58, xm_i58, xm_I58, 0, 0, 0, [(0, .ref 59), (1, .int ((46 : Int32)))], [], xw_R X s_57_0 s_57_1 s_57_18 s_57_19 s_57_20 t_written a_58 t_out a_60 a_61 a_62 a_63 a_64 a_65 a_66 a_67 a_68 a_69 a_70 t_sorts t_values t_items a_74 a_75 l_76)))) (fun K => rfl) ?_
      obtain ⟨q958, hq958, h⟩ := Option.bind_eq_some_iff.mp h
      have heq958 := xh_rf_put_57 (l := l) (g := g) ok a_58 a_60 a_61 a_62 a_63 a_64 a_65 a_66 a_67 a_68 a_69 a_70 t_sorts t_values t_items a_74 a_75 l_76 s_57_0 s_57_1 s_57_18 s_57_19 s_57_20 X t_out t_written ((46 : Int32)) _ hq958
      refine xe_call0 (ws' := xw_R X s_57_0 s_57_1 s_57_18 s_57_19 s_57_20 q958.2.2 a_58 q958.2.1 a_60 a_61 a_62 a_63 a_64 a_65 a_66 a_67 a_68 a_69 a_70 t_sorts t_values t_items a_74 a_75 l_76) (by decide) heq958 (Or.inl rfl) ?_
      refine xe_seg ok 1 (G := (fun K => K (60, xm_i60, xm_I60, 0, 0, 269, [(0, .ref 59), (1, .int v1), (2, .int v2)], [], xw_R X s_57_0 s_57_1 s_57_18 s_57_19 s_57_20 q958.2.2 a_58 q958.2.1 a_60 a_61 a_62 a_63 a_64 a_65 a_66 a_67 a_68 a_69 a_70 t_sorts t_values t_items a_74 a_75 l_76))) (fun K => rfl) ?_
      refine xe_k ?_
      refine xe_sub [false, false, false] (lv' := []) rfl ?_
      have hz := xh_rf_putArgument_57_269 (l := l) (g := g) ok a_58 a_60 a_61 a_62 a_63 a_64 a_65 a_66 a_67 a_68 a_69 a_70 a_74 a_75 l_76 s_57_0 s_57_1 s_57_18 s_57_19 s_57_20 X t_items t_sorts t_values n q958.2.1 q958.2.2 _ h
      exact hz
set_option maxHeartbeats 400000 in
theorem xh_rf_putArgument_57 {l : Launch} {g : xr_G} (ok : xr_OK xm_P) (a_58 a_60 a_61 a_62 a_63 a_64 a_65 a_66 a_67 a_68 a_69 a_70 a_74 a_75 : Nat → Int32) (l_76 : Nat → Int64) (s_57_0 s_57_1 s_57_18 s_57_19 s_57_20 : Int32) (X : Nat → xr_C) (t_items : (Nat → Int32)) (t_sorts : (Nat → Int32)) (t_values : (Nat → Int32)) (n : Nat) : ∀ (t_out : (Nat → Int32)) (t_written : Int32) (a1 : Int32) (r : (Unit × (Nat → Int32) × Int32)), xf_rf_putArgument t_items t_sorts t_values n t_out t_written a1 = some r → xV xm_P l g (60, xm_i60, xm_I60, 0, 0, 0, [(0, .ref 59), (1, .int a1)], [], xw_R X s_57_0 s_57_1 s_57_18 s_57_19 s_57_20 t_written a_58 t_out a_60 a_61 a_62 a_63 a_64 a_65 a_66 a_67 a_68 a_69 a_70 t_sorts t_values t_items a_74 a_75 l_76) (.inl none, xw_R X s_57_0 s_57_1 s_57_18 s_57_19 s_57_20 r.2.2 a_58 r.2.1 a_60 a_61 a_62 a_63 a_64 a_65 a_66 a_67 a_68 a_69 a_70 t_sorts t_values t_items a_74 a_75 l_76) := by
  intro t_out t_written a1 r h
  unfold xf_rf_putArgument at h
  refine xe_seg ok 4 (G := (fun K => if xr_in a1 960 = true then K (60, xm_i60, xm_I60, 0, 0, 6, [(0, .ref 59), (1, .int a1)], [.int (t_sorts a1.toNatClampNeg)], xw_R X s_57_0 s_57_1 s_57_18 s_57_19 s_57_20 t_written a_58 t_out a_60 a_61 a_62 a_63 a_64 a_65 a_66 a_67 a_68 a_69 a_70 t_sorts t_values t_items a_74 a_75 l_76) else none)) (fun K => rfl) ?_
  obtain ⟨hg922, h⟩ := xn_if h
  refine xe_pos hg922 (xe_k ?_)
  refine xe_seg ok 1 (G := (fun K => if (t_sorts a1.toNatClampNeg) = (0 : Int32) then K (60, xm_i60, xm_I60, 0, 0, 48, [(0, .ref 59), (1, .int a1)], [], xw_R X s_57_0 s_57_1 s_57_18 s_57_19 s_57_20 t_written a_58 t_out a_60 a_61 a_62 a_63 a_64 a_65 a_66 a_67 a_68 a_69 a_70 t_sorts t_values t_items a_74 a_75 l_76) else if (t_sorts a1.toNatClampNeg) = (1 : Int32) then K (60, xm_i60, xm_I60, 0, 0, 61, [(0, .ref 59), (1, .int a1)], [], xw_R X s_57_0 s_57_1 s_57_18 s_57_19 s_57_20 t_written a_58 t_out a_60 a_61 a_62 a_63 a_64 a_65 a_66 a_67 a_68 a_69 a_70 t_sorts t_values t_items a_74 a_75 l_76) else if (t_sorts a1.toNatClampNeg) = (2 : Int32) then K (60, xm_i60, xm_I60, 0, 0, 122, [(0, .ref 59), (1, .int a1)], [], xw_R X s_57_0 s_57_1 s_57_18 s_57_19 s_57_20 t_written a_58 t_out a_60 a_61 a_62 a_63 a_64 a_65 a_66 a_67 a_68 a_69 a_70 t_sorts t_values t_items a_74 a_75 l_76) else if (t_sorts a1.toNatClampNeg) = (3 : Int32) then K (60, xm_i60, xm_I60, 0, 0, 198, [(0, .ref 59), (1, .int a1)], [], xw_R X s_57_0 s_57_1 s_57_18 s_57_19 s_57_20 t_written a_58 t_out a_60 a_61 a_62 a_63 a_64 a_65 a_66 a_67 a_68 a_69 a_70 t_sorts t_values t_items a_74 a_75 l_76) else if (t_sorts a1.toNatClampNeg) = (4 : Int32) then K (60, xm_i60, xm_I60, 0, 0, 198, [(0, .ref 59), (1, .int a1)], [], xw_R X s_57_0 s_57_1 s_57_18 s_57_19 s_57_20 t_written a_58 t_out a_60 a_61 a_62 a_63 a_64 a_65 a_66 a_67 a_68 a_69 a_70 t_sorts t_values t_items a_74 a_75 l_76) else if (t_sorts a1.toNatClampNeg) = (5 : Int32) then K (60, xm_i60, xm_I60, 0, 0, 141, [(0, .ref 59), (1, .int a1)], [], xw_R X s_57_0 s_57_1 s_57_18 s_57_19 s_57_20 t_written a_58 t_out a_60 a_61 a_62 a_63 a_64 a_65 a_66 a_67 a_68 a_69 a_70 t_sorts t_values t_items a_74 a_75 l_76) else if (t_sorts a1.toNatClampNeg) = (6 : Int32) then K (60, xm_i60, xm_I60, 0, 0, 189, [(0, .ref 59), (1, .int a1)], [], xw_R X s_57_0 s_57_1 s_57_18 s_57_19 s_57_20 t_written a_58 t_out a_60 a_61 a_62 a_63 a_64 a_65 a_66 a_67 a_68 a_69 a_70 t_sorts t_values t_items a_74 a_75 l_76) else K (60, xm_i60, xm_I60, 0, 0, 198, [(0, .ref 59), (1, .int a1)], [], xw_R X s_57_0 s_57_1 s_57_18 s_57_19 s_57_20 t_written a_58 t_out a_60 a_61 a_62 a_63 a_64 a_65 a_66 a_67 a_68 a_69 a_70 t_sorts t_values t_items a_74 a_75 l_76))) (fun K => rfl) ?_
  rcases xb_if h with ⟨hc923, h⟩ | ⟨hc923, h⟩
  · refine xe_pos hc923 (xe_k ?_)
    refine xe_seg ok 5 (G := (fun K => if xr_in a1 960 = true then K (60, xm_i60, xm_I60, 0, 0, 55, [(0, .ref 59), (1, .int a1)], [.int (t_values a1.toNatClampNeg), .ref 59], xw_R X s_57_0 s_57_1 s_57_18 s_57_19 s_57_20 t_written a_58 t_out a_60 a_61 a_62 a_63 a_64 a_65 a_66 a_67 a_68 a_69 a_70 t_sorts t_values t_items a_74 a_75 l_76) else none)) (fun K => rfl) ?_
    obtain ⟨hg924, h⟩ := xn_if h
    refine xe_pos hg924 (xe_k ?_)
    refine xe_seg ok 1 (G := (fun K => xr_back K 60 xm_i60 xm_I60 0 0 55 [(0, .ref 59), (1, .int a1)] [] 78 true (K (59, xm_i59, xm_I59, 0, 0, 0, [(0, .ref 59), (1, .int (t_values a1.toNatClampNeg))], [], xw_R X s_57_0 s_57_1 s_57_18 s_57_19 s_57_20 t_written a_58 t_out a_60 a_61 a_62 a_63 a_64 a_65 a_66 a_67 a_68 a_69 a_70 t_sorts t_values t_items a_74 a_75 l_76)))) (fun K => rfl) ?_
    obtain ⟨q925, hq925, h⟩ := Option.bind_eq_some_iff.mp h
    have heq925 := xh_rf_putNumber_57 (l := l) (g := g) ok a_58 a_60 a_61 a_62 a_63 a_64 a_65 a_66 a_67 a_68 a_69 a_70 t_sorts t_values t_items a_74 a_75 l_76 s_57_0 s_57_1 s_57_18 s_57_19 s_57_20 X n t_out t_written (t_values a1.toNatClampNeg) _ hq925
    refine xe_call0 (ws' := xw_R X s_57_0 s_57_1 s_57_18 s_57_19 s_57_20 q925.2.2 a_58 q925.2.1 a_60 a_61 a_62 a_63 a_64 a_65 a_66 a_67 a_68 a_69 a_70 t_sorts t_values t_items a_74 a_75 l_76) (by decide) heq925 (Or.inl rfl) ?_
    refine xe_seg ok 1 (G := (fun K => K (60, xm_i60, xm_I60, 0, 0, 269, [(0, .ref 59), (1, .int a1)], [], xw_R X s_57_0 s_57_1 s_57_18 s_57_19 s_57_20 q925.2.2 a_58 q925.2.1 a_60 a_61 a_62 a_63 a_64 a_65 a_66 a_67 a_68 a_69 a_70 t_sorts t_values t_items a_74 a_75 l_76))) (fun K => rfl) ?_
    refine xe_k ?_
    refine xe_sub [false, false] (lv' := []) rfl ?_
    have hz := xh_rf_putArgument_57_269 (l := l) (g := g) ok a_58 a_60 a_61 a_62 a_63 a_64 a_65 a_66 a_67 a_68 a_69 a_70 a_74 a_75 l_76 s_57_0 s_57_1 s_57_18 s_57_19 s_57_20 X t_items t_sorts t_values n q925.2.1 q925.2.2 _ h
    exact hz
  · refine xe_neg hc923 ?_
    rcases xb_if h with ⟨hc926, h⟩ | ⟨hc926, h⟩
    · refine xe_pos hc926 (xe_k ?_)
      refine xe_seg ok 3 (G := (fun K => xr_back K 60 xm_i60 xm_I60 0 0 64 [(0, .ref 59), (1, .int a1)] [] 78 true (K (58, xm_i58, xm_I58, 0, 0, 0, [(0, .ref 59), (1, .int ((39 : Int32)))], [], xw_R X s_57_0 s_57_1 s_57_18 s_57_19 s_57_20 t_written a_58 t_out a_60 a_61 a_62 a_63 a_64 a_65 a_66 a_67 a_68 a_69 a_70 t_sorts t_values t_items a_74 a_75 l_76)))) (fun K => rfl) ?_
      obtain ⟨q927, hq927, h⟩ := Option.bind_eq_some_iff.mp h
      have heq927 := xh_rf_put_57 (l := l) (g := g) ok a_58 a_60 a_61 a_62 a_63 a_64 a_65 a_66 a_67 a_68 a_69 a_70 t_sorts t_values t_items a_74 a_75 l_76 s_57_0 s_57_1 s_57_18 s_57_19 s_57_20 X t_out t_written ((39 : Int32)) _ hq927
      refine xe_call0 (ws' := xw_R X s_57_0 s_57_1 s_57_18 s_57_19 s_57_20 q927.2.2 a_58 q927.2.1 a_60 a_61 a_62 a_63 a_64 a_65 a_66 a_67 a_68 a_69 a_70 t_sorts t_values t_items a_74 a_75 l_76) (by decide) heq927 (Or.inl rfl) ?_
      refine xe_seg ok 2 (G := (fun K => K (60, xm_i60, xm_I60, 0, 0, 69, [(0, .ref 59), (1, .int a1), (2, .int ((0 : Int32)))], [], xw_R X s_57_0 s_57_1 s_57_18 s_57_19 s_57_20 q927.2.2 a_58 q927.2.1 a_60 a_61 a_62 a_63 a_64 a_65 a_66 a_67 a_68 a_69 a_70 t_sorts t_values t_items a_74 a_75 l_76))) (fun K => rfl) ?_
      refine xe_k ?_
      refine xe_sub [true, true, true] (lv' := [(0, .ref 59), (1, .int a1), (2, .int ((0 : Int32)))]) rfl ?_
      have hz := xh_rf_putArgument_57_69 (l := l) (g := g) ok a_58 a_60 a_61 a_62 a_63 a_64 a_65 a_66 a_67 a_68 a_69 a_70 a_74 a_75 l_76 s_57_0 s_57_1 s_57_18 s_57_19 s_57_20 X t_items t_sorts t_values n n q927.2.1 q927.2.2 a1 ((0 : Int32)) _ h
      exact hz
    · refine xe_neg hc926 ?_
      rcases xb_if h with ⟨hc935, h⟩ | ⟨hc935, h⟩
      · refine xe_pos hc935 (xe_k ?_)
        refine xe_seg ok 3 (G := (fun K => xr_back K 60 xm_i60 xm_I60 0 0 125 [(0, .ref 59), (1, .int a1)] [] 78 true (K (58, xm_i58, xm_I58, 0, 0, 0, [(0, .ref 59), (1, .int ((35 : Int32)))], [], xw_R X s_57_0 s_57_1 s_57_18 s_57_19 s_57_20 t_written a_58 t_out a_60 a_61 a_62 a_63 a_64 a_65 a_66 a_67 a_68 a_69 a_70 t_sorts t_values t_items a_74 a_75 l_76)))) (fun K => rfl) ?_
        obtain ⟨q936, hq936, h⟩ := Option.bind_eq_some_iff.mp h
        have heq936 := xh_rf_put_57 (l := l) (g := g) ok a_58 a_60 a_61 a_62 a_63 a_64 a_65 a_66 a_67 a_68 a_69 a_70 t_sorts t_values t_items a_74 a_75 l_76 s_57_0 s_57_1 s_57_18 s_57_19 s_57_20 X t_out t_written ((35 : Int32)) _ hq936
        refine xe_call0 (ws' := xw_R X s_57_0 s_57_1 s_57_18 s_57_19 s_57_20 q936.2.2 a_58 q936.2.1 a_60 a_61 a_62 a_63 a_64 a_65 a_66 a_67 a_68 a_69 a_70 t_sorts t_values t_items a_74 a_75 l_76) (by decide) heq936 (Or.inl rfl) ?_
        refine xe_seg ok 5 (G := (fun K => if xr_in a1 960 = true then K (60, xm_i60, xm_I60, 0, 0, 135, [(0, .ref 59), (1, .int a1)], [.int (t_values a1.toNatClampNeg), .ref 59], xw_R X s_57_0 s_57_1 s_57_18 s_57_19 s_57_20 q936.2.2 a_58 q936.2.1 a_60 a_61 a_62 a_63 a_64 a_65 a_66 a_67 a_68 a_69 a_70 t_sorts t_values t_items a_74 a_75 l_76) else none)) (fun K => rfl) ?_
        obtain ⟨hg937, h⟩ := xn_if h
        refine xe_pos hg937 (xe_k ?_)
        refine xe_seg ok 1 (G := (fun K => xr_back K 60 xm_i60 xm_I60 0 0 135 [(0, .ref 59), (1, .int a1)] [] 78 true (K (59, xm_i59, xm_I59, 0, 0, 0, [(0, .ref 59), (1, .int (t_values a1.toNatClampNeg))], [], xw_R X s_57_0 s_57_1 s_57_18 s_57_19 s_57_20 q936.2.2 a_58 q936.2.1 a_60 a_61 a_62 a_63 a_64 a_65 a_66 a_67 a_68 a_69 a_70 t_sorts t_values t_items a_74 a_75 l_76)))) (fun K => rfl) ?_
        obtain ⟨q938, hq938, h⟩ := Option.bind_eq_some_iff.mp h
        have heq938 := xh_rf_putNumber_57 (l := l) (g := g) ok a_58 a_60 a_61 a_62 a_63 a_64 a_65 a_66 a_67 a_68 a_69 a_70 t_sorts t_values t_items a_74 a_75 l_76 s_57_0 s_57_1 s_57_18 s_57_19 s_57_20 X n q936.2.1 q936.2.2 (t_values a1.toNatClampNeg) _ hq938
        refine xe_call0 (ws' := xw_R X s_57_0 s_57_1 s_57_18 s_57_19 s_57_20 q938.2.2 a_58 q938.2.1 a_60 a_61 a_62 a_63 a_64 a_65 a_66 a_67 a_68 a_69 a_70 t_sorts t_values t_items a_74 a_75 l_76) (by decide) heq938 (Or.inl rfl) ?_
        refine xe_seg ok 1 (G := (fun K => K (60, xm_i60, xm_I60, 0, 0, 269, [(0, .ref 59), (1, .int a1)], [], xw_R X s_57_0 s_57_1 s_57_18 s_57_19 s_57_20 q938.2.2 a_58 q938.2.1 a_60 a_61 a_62 a_63 a_64 a_65 a_66 a_67 a_68 a_69 a_70 t_sorts t_values t_items a_74 a_75 l_76))) (fun K => rfl) ?_
        refine xe_k ?_
        refine xe_sub [false, false] (lv' := []) rfl ?_
        have hz := xh_rf_putArgument_57_269 (l := l) (g := g) ok a_58 a_60 a_61 a_62 a_63 a_64 a_65 a_66 a_67 a_68 a_69 a_70 a_74 a_75 l_76 s_57_0 s_57_1 s_57_18 s_57_19 s_57_20 X t_items t_sorts t_values n q938.2.1 q938.2.2 _ h
        exact hz
      · refine xe_neg hc935 ?_
        rcases xb_if h with ⟨hc939, h⟩ | ⟨hc939, h⟩
        · refine xe_pos hc939 (xe_k ?_)
          refine xe_sub [true, true] (lv' := [(0, .ref 59), (1, .int a1)]) rfl ?_
          have hz := xh_rf_putArgument_57_198 (l := l) (g := g) ok a_58 a_60 a_61 a_62 a_63 a_64 a_65 a_66 a_67 a_68 a_69 a_70 a_74 a_75 l_76 s_57_0 s_57_1 s_57_18 s_57_19 s_57_20 X t_items t_sorts t_values n t_out t_written a1 _ h
          exact hz
        · refine xe_neg hc939 ?_
          rcases xb_if h with ⟨hc951, h⟩ | ⟨hc951, h⟩
          · refine xe_pos hc951 (xe_k ?_)
            refine xe_sub [true, true] (lv' := [(0, .ref 59), (1, .int a1)]) rfl ?_
            have hz := xh_rf_putArgument_57_198 (l := l) (g := g) ok a_58 a_60 a_61 a_62 a_63 a_64 a_65 a_66 a_67 a_68 a_69 a_70 a_74 a_75 l_76 s_57_0 s_57_1 s_57_18 s_57_19 s_57_20 X t_items t_sorts t_values n t_out t_written a1 _ h
            exact hz
          · refine xe_neg hc951 ?_
            rcases xb_if h with ⟨hc952, h⟩ | ⟨hc952, h⟩
            · refine xe_pos hc952 (xe_k ?_)
              refine xe_seg ok 3 (G := (fun K => xr_back K 60 xm_i60 xm_I60 0 0 144 [(0, .ref 59), (1, .int a1)] [] 78 true (K (58, xm_i58, xm_I58, 0, 0, 0, [(0, .ref 59), (1, .int ((46 : Int32)))], [], xw_R X s_57_0 s_57_1 s_57_18 s_57_19 s_57_20 t_written a_58 t_out a_60 a_61 a_62 a_63 a_64 a_65 a_66 a_67 a_68 a_69 a_70 t_sorts t_values t_items a_74 a_75 l_76)))) (fun K => rfl) ?_
              obtain ⟨q953, hq953, h⟩ := Option.bind_eq_some_iff.mp h
              have heq953 := xh_rf_put_57 (l := l) (g := g) ok a_58 a_60 a_61 a_62 a_63 a_64 a_65 a_66 a_67 a_68 a_69 a_70 t_sorts t_values t_items a_74 a_75 l_76 s_57_0 s_57_1 s_57_18 s_57_19 s_57_20 X t_out t_written ((46 : Int32)) _ hq953
              refine xe_call0 (ws' := xw_R X s_57_0 s_57_1 s_57_18 s_57_19 s_57_20 q953.2.2 a_58 q953.2.1 a_60 a_61 a_62 a_63 a_64 a_65 a_66 a_67 a_68 a_69 a_70 t_sorts t_values t_items a_74 a_75 l_76) (by decide) heq953 (Or.inl rfl) ?_
              refine xe_seg ok 2 (G := (fun K => K (60, xm_i60, xm_I60, 0, 0, 149, [(0, .ref 59), (1, .int a1), (2, .int ((0 : Int32)))], [], xw_R X s_57_0 s_57_1 s_57_18 s_57_19 s_57_20 q953.2.2 a_58 q953.2.1 a_60 a_61 a_62 a_63 a_64 a_65 a_66 a_67 a_68 a_69 a_70 t_sorts t_values t_items a_74 a_75 l_76))) (fun K => rfl) ?_
              refine xe_k ?_
              refine xe_sub [true, true, true] (lv' := [(0, .ref 59), (1, .int a1), (2, .int ((0 : Int32)))]) rfl ?_
              have hz := xh_rf_putArgument_57_149 (l := l) (g := g) ok a_58 a_60 a_61 a_62 a_63 a_64 a_65 a_66 a_67 a_68 a_69 a_70 a_74 a_75 l_76 s_57_0 s_57_1 s_57_18 s_57_19 s_57_20 X t_items t_sorts t_values n n q953.2.1 q953.2.2 a1 ((0 : Int32)) _ h
              exact hz
            · refine xe_neg hc952 ?_
              rcases xb_if h with ⟨hc959, h⟩ | ⟨hc959, h⟩
              · refine xe_pos hc959 (xe_k ?_)
                refine xe_seg ok 3 (G := (fun K => xr_back K 60 xm_i60 xm_I60 0 0 192 [(0, .ref 59), (1, .int a1)] [] 78 true (K (58, xm_i58, xm_I58, 0, 0, 0, [(0, .ref 59), (1, .int ((36 : Int32)))], [], xw_R X s_57_0 s_57_1 s_57_18 s_57_19 s_57_20 t_written a_58 t_out a_60 a_61 a_62 a_63 a_64 a_65 a_66 a_67 a_68 a_69 a_70 t_sorts t_values t_items a_74 a_75 l_76)))) (fun K => rfl) ?_
                obtain ⟨q960, hq960, h⟩ := Option.bind_eq_some_iff.mp h
                have heq960 := xh_rf_put_57 (l := l) (g := g) ok a_58 a_60 a_61 a_62 a_63 a_64 a_65 a_66 a_67 a_68 a_69 a_70 t_sorts t_values t_items a_74 a_75 l_76 s_57_0 s_57_1 s_57_18 s_57_19 s_57_20 X t_out t_written ((36 : Int32)) _ hq960
                refine xe_call0 (ws' := xw_R X s_57_0 s_57_1 s_57_18 s_57_19 s_57_20 q960.2.2 a_58 q960.2.1 a_60 a_61 a_62 a_63 a_64 a_65 a_66 a_67 a_68 a_69 a_70 t_sorts t_values t_items a_74 a_75 l_76) (by decide) heq960 (Or.inl rfl) ?_
                refine xe_seg ok 1 (G := (fun K => K (60, xm_i60, xm_I60, 0, 0, 269, [(0, .ref 59), (1, .int a1)], [], xw_R X s_57_0 s_57_1 s_57_18 s_57_19 s_57_20 q960.2.2 a_58 q960.2.1 a_60 a_61 a_62 a_63 a_64 a_65 a_66 a_67 a_68 a_69 a_70 t_sorts t_values t_items a_74 a_75 l_76))) (fun K => rfl) ?_
                refine xe_k ?_
                refine xe_sub [false, false] (lv' := []) rfl ?_
                have hz := xh_rf_putArgument_57_269 (l := l) (g := g) ok a_58 a_60 a_61 a_62 a_63 a_64 a_65 a_66 a_67 a_68 a_69 a_70 a_74 a_75 l_76 s_57_0 s_57_1 s_57_18 s_57_19 s_57_20 X t_items t_sorts t_values n q960.2.1 q960.2.2 _ h
                exact hz
              · refine xe_neg hc959 ?_
                refine xe_k ?_
                refine xe_sub [true, true] (lv' := [(0, .ref 59), (1, .int a1)]) rfl ?_
                have hz := xh_rf_putArgument_57_198 (l := l) (g := g) ok a_58 a_60 a_61 a_62 a_63 a_64 a_65 a_66 a_67 a_68 a_69 a_70 a_74 a_75 l_76 s_57_0 s_57_1 s_57_18 s_57_19 s_57_20 X t_items t_sorts t_values n t_out t_written a1 _ h
                exact hz
set_option maxHeartbeats 400000 in
theorem xh_rf_write_57_105 {l : Launch} {g : xr_G} (ok : xr_OK xm_P) (a_60 a_61 a_62 a_63 a_64 a_65 a_74 a_75 : Nat → Int32) (l_76 : Nat → Int64) (s_57_18 s_57_19 s_57_20 : Int32) (X : Nat → xr_C) (t_items : (Nat → Int32)) (t_letters : (Nat → Int32)) (t_lines : (Nat → Int32)) (t_names : (Nat → Int32)) (t_numbers : (Nat → Int32)) (t_parts : (Nat → Int32)) (t_sorts : (Nat → Int32)) (t_values : (Nat → Int32)) {k12 : (Nat → Int32) → Int32 → (Nat → Int32) → Int32 → Int32 → Int32 → Option (Int32 × (Nat → Int32) × Int32 × (Nat → Int32) × Int32 × Int32)} (hk12 : ∀ (t_out : (Nat → Int32)) (t_size : Int32) (t_text : (Nat → Int32)) (t_thrown : Int32) (t_written : Int32) (v1 : Int32) (r : (Int32 × (Nat → Int32) × Int32 × (Nat → Int32) × Int32 × Int32)), k12 t_out t_size t_text t_thrown t_written v1 = some r → xV xm_P l g (61, xm_i61, xm_I61, 0, 0, 12, [(0, .ref 59), (1, .int v1)], [], xw_R X t_thrown t_size s_57_18 s_57_19 s_57_20 t_written t_text t_out a_60 a_61 a_62 a_63 a_64 a_65 t_lines t_numbers t_letters t_names t_parts t_sorts t_values t_items a_74 a_75 l_76) (.inl (some (.int r.1)), xw_R X r.2.2.2.2.1 r.2.2.1 s_57_18 s_57_19 s_57_20 r.2.2.2.2.2 r.2.2.2.1 r.2.1 a_60 a_61 a_62 a_63 a_64 a_65 t_lines t_numbers t_letters t_names t_parts t_sorts t_values t_items a_74 a_75 l_76)) {k85 : (Nat → Int32) → Int32 → (Nat → Int32) → Int32 → Int32 → Int32 → Int32 → Option (Int32 × (Nat → Int32) × Int32 × (Nat → Int32) × Int32 × Int32)} (hk85 : ∀ (t_out : (Nat → Int32)) (t_size : Int32) (t_text : (Nat → Int32)) (t_thrown : Int32) (t_written : Int32) (v1 : Int32) (v2 : Int32) (r : (Int32 × (Nat → Int32) × Int32 × (Nat → Int32) × Int32 × Int32)), k85 t_out t_size t_text t_thrown t_written v1 v2 = some r → xV xm_P l g (61, xm_i61, xm_I61, 0, 0, 85, [(0, .ref 59), (1, .int v1), (2, .int v2)], [], xw_R X t_thrown t_size s_57_18 s_57_19 s_57_20 t_written t_text t_out a_60 a_61 a_62 a_63 a_64 a_65 t_lines t_numbers t_letters t_names t_parts t_sorts t_values t_items a_74 a_75 l_76) (.inl (some (.int r.1)), xw_R X r.2.2.2.2.1 r.2.2.1 s_57_18 s_57_19 s_57_20 r.2.2.2.2.2 r.2.2.2.1 r.2.1 a_60 a_61 a_62 a_63 a_64 a_65 t_lines t_numbers t_letters t_names t_parts t_sorts t_values t_items a_74 a_75 l_76)) (n : Nat) : ∀ (t_out : (Nat → Int32)) (t_size : Int32) (t_text : (Nat → Int32)) (t_thrown : Int32) (t_written : Int32) (v1 : Int32) (v2 : Int32) (r : (Int32 × (Nat → Int32) × Int32 × (Nat → Int32) × Int32 × Int32)), xf_rf_write_105 t_items t_letters t_lines t_names t_numbers t_parts t_sorts t_values k12 k85 n t_out t_size t_text t_thrown t_written v1 v2 = some r → xV xm_P l g (61, xm_i61, xm_I61, 0, 0, 105, [(0, .ref 59), (1, .int v1), (2, .int v2)], [], xw_R X t_thrown t_size s_57_18 s_57_19 s_57_20 t_written t_text t_out a_60 a_61 a_62 a_63 a_64 a_65 t_lines t_numbers t_letters t_names t_parts t_sorts t_values t_items a_74 a_75 l_76) (.inl (some (.int r.1)), xw_R X r.2.2.2.2.1 r.2.2.1 s_57_18 s_57_19 s_57_20 r.2.2.2.2.2 r.2.2.2.1 r.2.1 a_60 a_61 a_62 a_63 a_64 a_65 t_lines t_numbers t_letters t_names t_parts t_sorts t_values t_items a_74 a_75 l_76) := by
  intro t_out t_size t_text t_thrown t_written v1 v2 r h
  unfold xf_rf_write_105 at h
  refine xe_seg ok 7 (G := (fun K => xr_back K 61 xm_i61 xm_I61 0 0 112 [(0, .ref 59), (1, .int v1), (2, .int v2)] [] 78 true (K (60, xm_i60, xm_I60, 0, 0, 0, [(0, .ref 59), (1, .int ((((8 : Int32)) * v1) + v2))], [], xw_R X t_thrown t_size s_57_18 s_57_19 s_57_20 t_written t_text t_out a_60 a_61 a_62 a_63 a_64 a_65 t_lines t_numbers t_letters t_names t_parts t_sorts t_values t_items a_74 a_75 l_76)))) (fun K => rfl) ?_
  obtain ⟨q961, hq961, h⟩ := Option.bind_eq_some_iff.mp h
  have heq961 := xh_rf_putArgument_57 (l := l) (g := g) ok t_text a_60 a_61 a_62 a_63 a_64 a_65 t_lines t_numbers t_letters t_names t_parts a_74 a_75 l_76 t_thrown t_size s_57_18 s_57_19 s_57_20 X t_items t_sorts t_values n t_out t_written ((((8 : Int32)) * v1) + v2) _ hq961
  refine xe_call0 (ws' := xw_R X t_thrown t_size s_57_18 s_57_19 s_57_20 q961.2.2 t_text q961.2.1 a_60 a_61 a_62 a_63 a_64 a_65 t_lines t_numbers t_letters t_names t_parts t_sorts t_values t_items a_74 a_75 l_76) (by decide) heq961 (Or.inl rfl) ?_
  refine xe_seg ok 2 (G := (fun K => K (61, xm_i61, xm_I61, 0, 0, 85, [(0, .ref 59), (1, .int v1), (2, .int (v2 + (1 : Int32)))], [], xw_R X t_thrown t_size s_57_18 s_57_19 s_57_20 q961.2.2 t_text q961.2.1 a_60 a_61 a_62 a_63 a_64 a_65 t_lines t_numbers t_letters t_names t_parts t_sorts t_values t_items a_74 a_75 l_76))) (fun K => rfl) ?_
  refine xe_k ?_
  refine xe_sub [true, true, true] (lv' := [(0, .ref 59), (1, .int v1), (2, .int (v2 + (1 : Int32)))]) rfl ?_
  have hz := hk85 q961.2.1 t_size t_text t_thrown q961.2.2 v1 (v2 + (1 : Int32)) _ h
  exact hz
set_option maxHeartbeats 400000 in
theorem xh_rf_write_57_85 {l : Launch} {g : xr_G} (ok : xr_OK xm_P) (a_60 a_61 a_62 a_63 a_64 a_65 a_74 a_75 : Nat → Int32) (l_76 : Nat → Int64) (s_57_18 s_57_19 s_57_20 : Int32) (X : Nat → xr_C) (t_items : (Nat → Int32)) (t_letters : (Nat → Int32)) (t_lines : (Nat → Int32)) (t_names : (Nat → Int32)) (t_numbers : (Nat → Int32)) (t_parts : (Nat → Int32)) (t_sorts : (Nat → Int32)) (t_values : (Nat → Int32)) {k12 : (Nat → Int32) → Int32 → (Nat → Int32) → Int32 → Int32 → Int32 → Option (Int32 × (Nat → Int32) × Int32 × (Nat → Int32) × Int32 × Int32)} (hk12 : ∀ (t_out : (Nat → Int32)) (t_size : Int32) (t_text : (Nat → Int32)) (t_thrown : Int32) (t_written : Int32) (v1 : Int32) (r : (Int32 × (Nat → Int32) × Int32 × (Nat → Int32) × Int32 × Int32)), k12 t_out t_size t_text t_thrown t_written v1 = some r → xV xm_P l g (61, xm_i61, xm_I61, 0, 0, 12, [(0, .ref 59), (1, .int v1)], [], xw_R X t_thrown t_size s_57_18 s_57_19 s_57_20 t_written t_text t_out a_60 a_61 a_62 a_63 a_64 a_65 t_lines t_numbers t_letters t_names t_parts t_sorts t_values t_items a_74 a_75 l_76) (.inl (some (.int r.1)), xw_R X r.2.2.2.2.1 r.2.2.1 s_57_18 s_57_19 s_57_20 r.2.2.2.2.2 r.2.2.2.1 r.2.1 a_60 a_61 a_62 a_63 a_64 a_65 t_lines t_numbers t_letters t_names t_parts t_sorts t_values t_items a_74 a_75 l_76)) (n : Nat) : ∀ (N : Nat) (t_out : (Nat → Int32)) (t_size : Int32) (t_text : (Nat → Int32)) (t_thrown : Int32) (t_written : Int32) (v1 : Int32) (v2 : Int32) (r : (Int32 × (Nat → Int32) × Int32 × (Nat → Int32) × Int32 × Int32)), xf_rf_write_85 t_items t_letters t_lines t_names t_numbers t_parts t_sorts t_values k12 n N t_out t_size t_text t_thrown t_written v1 v2 = some r → xV xm_P l g (61, xm_i61, xm_I61, 0, 0, 85, [(0, .ref 59), (1, .int v1), (2, .int v2)], [], xw_R X t_thrown t_size s_57_18 s_57_19 s_57_20 t_written t_text t_out a_60 a_61 a_62 a_63 a_64 a_65 t_lines t_numbers t_letters t_names t_parts t_sorts t_values t_items a_74 a_75 l_76) (.inl (some (.int r.1)), xw_R X r.2.2.2.2.1 r.2.2.1 s_57_18 s_57_19 s_57_20 r.2.2.2.2.2 r.2.2.2.1 r.2.1 a_60 a_61 a_62 a_63 a_64 a_65 t_lines t_numbers t_letters t_names t_parts t_sorts t_values t_items a_74 a_75 l_76) := by
  intro N
  induction N with
  | zero => intro t_out t_size t_text t_thrown t_written v1 v2 r h; cases h
  | succ N hk85 =>
    intro t_out t_size t_text t_thrown t_written v1 v2 r h
    refine xe_seg ok 5 (G := (fun K => if xr_in v1 120 = true then K (61, xm_i61, xm_I61, 0, 0, 92, [(0, .ref 59), (1, .int v1), (2, .int v2)], [.int (t_parts v1.toNatClampNeg), .int v2], xw_R X t_thrown t_size s_57_18 s_57_19 s_57_20 t_written t_text t_out a_60 a_61 a_62 a_63 a_64 a_65 t_lines t_numbers t_letters t_names t_parts t_sorts t_values t_items a_74 a_75 l_76) else none)) (fun K => rfl) ?_
    obtain ⟨hg918, h⟩ := xn_if h
    refine xe_pos hg918 (xe_k ?_)
    refine xe_seg ok 1 (G := (fun K => if v2 < (t_parts v1.toNatClampNeg) then K (61, xm_i61, xm_I61, 0, 0, 95, [(0, .ref 59), (1, .int v1), (2, .int v2)], [], xw_R X t_thrown t_size s_57_18 s_57_19 s_57_20 t_written t_text t_out a_60 a_61 a_62 a_63 a_64 a_65 t_lines t_numbers t_letters t_names t_parts t_sorts t_values t_items a_74 a_75 l_76) else K (61, xm_i61, xm_I61, 0, 0, 121, [(0, .ref 59), (1, .int v1), (2, .int v2)], [], xw_R X t_thrown t_size s_57_18 s_57_19 s_57_20 t_written t_text t_out a_60 a_61 a_62 a_63 a_64 a_65 t_lines t_numbers t_letters t_names t_parts t_sorts t_values t_items a_74 a_75 l_76))) (fun K => rfl) ?_
    rcases xb_if h with ⟨hc919, h⟩ | ⟨hc919, h⟩
    · refine xe_pos hc919 (xe_k ?_)
      refine xe_seg ok 2 (G := (fun K => if (0 : Int32) < v2 then K (61, xm_i61, xm_I61, 0, 0, 99, [(0, .ref 59), (1, .int v1), (2, .int v2)], [], xw_R X t_thrown t_size s_57_18 s_57_19 s_57_20 t_written t_text t_out a_60 a_61 a_62 a_63 a_64 a_65 t_lines t_numbers t_letters t_names t_parts t_sorts t_values t_items a_74 a_75 l_76) else K (61, xm_i61, xm_I61, 0, 0, 105, [(0, .ref 59), (1, .int v1), (2, .int v2)], [], xw_R X t_thrown t_size s_57_18 s_57_19 s_57_20 t_written t_text t_out a_60 a_61 a_62 a_63 a_64 a_65 t_lines t_numbers t_letters t_names t_parts t_sorts t_values t_items a_74 a_75 l_76))) (fun K => rfl) ?_
      rcases xb_if h with ⟨hc920, h⟩ | ⟨hc920, h⟩
      · refine xe_pos hc920 (xe_k ?_)
        refine xe_seg ok 3 (G := (fun K => xr_back K 61 xm_i61 xm_I61 0 0 102 [(0, .ref 59), (1, .int v1), (2, .int v2)] [] 78 true (K (58, xm_i58, xm_I58, 0, 0, 0, [(0, .ref 59), (1, .int ((44 : Int32)))], [], xw_R X t_thrown t_size s_57_18 s_57_19 s_57_20 t_written t_text t_out a_60 a_61 a_62 a_63 a_64 a_65 t_lines t_numbers t_letters t_names t_parts t_sorts t_values t_items a_74 a_75 l_76)))) (fun K => rfl) ?_
        obtain ⟨q921, hq921, h⟩ := Option.bind_eq_some_iff.mp h
        have heq921 := xh_rf_put_57 (l := l) (g := g) ok t_text a_60 a_61 a_62 a_63 a_64 a_65 t_lines t_numbers t_letters t_names t_parts t_sorts t_values t_items a_74 a_75 l_76 t_thrown t_size s_57_18 s_57_19 s_57_20 X t_out t_written ((44 : Int32)) _ hq921
        refine xe_call0 (ws' := xw_R X t_thrown t_size s_57_18 s_57_19 s_57_20 q921.2.2 t_text q921.2.1 a_60 a_61 a_62 a_63 a_64 a_65 t_lines t_numbers t_letters t_names t_parts t_sorts t_values t_items a_74 a_75 l_76) (by decide) heq921 (Or.inl rfl) ?_
        refine xe_sub [true, true, true] (lv' := [(0, .ref 59), (1, .int v1), (2, .int v2)]) rfl ?_
        have hz := xh_rf_write_57_105 (l := l) (g := g) ok a_60 a_61 a_62 a_63 a_64 a_65 a_74 a_75 l_76 s_57_18 s_57_19 s_57_20 X t_items t_letters t_lines t_names t_numbers t_parts t_sorts t_values hk12 hk85 n q921.2.1 t_size t_text t_thrown q921.2.2 v1 v2 _ h
        exact hz
      · refine xe_neg hc920 (xe_k ?_)
        refine xe_sub [true, true, true] (lv' := [(0, .ref 59), (1, .int v1), (2, .int v2)]) rfl ?_
        have hz := xh_rf_write_57_105 (l := l) (g := g) ok a_60 a_61 a_62 a_63 a_64 a_65 a_74 a_75 l_76 s_57_18 s_57_19 s_57_20 X t_items t_letters t_lines t_names t_numbers t_parts t_sorts t_values hk12 hk85 n t_out t_size t_text t_thrown t_written v1 v2 _ h
        exact hz
    · refine xe_neg hc919 (xe_k ?_)
      refine xe_seg ok 3 (G := (fun K => xr_back K 61 xm_i61 xm_I61 0 0 124 [(0, .ref 59), (1, .int v1), (2, .int v2)] [] 78 true (K (58, xm_i58, xm_I58, 0, 0, 0, [(0, .ref 59), (1, .int ((41 : Int32)))], [], xw_R X t_thrown t_size s_57_18 s_57_19 s_57_20 t_written t_text t_out a_60 a_61 a_62 a_63 a_64 a_65 t_lines t_numbers t_letters t_names t_parts t_sorts t_values t_items a_74 a_75 l_76)))) (fun K => rfl) ?_
      obtain ⟨q962, hq962, h⟩ := Option.bind_eq_some_iff.mp h
      have heq962 := xh_rf_put_57 (l := l) (g := g) ok t_text a_60 a_61 a_62 a_63 a_64 a_65 t_lines t_numbers t_letters t_names t_parts t_sorts t_values t_items a_74 a_75 l_76 t_thrown t_size s_57_18 s_57_19 s_57_20 X t_out t_written ((41 : Int32)) _ hq962
      refine xe_call0 (ws' := xw_R X t_thrown t_size s_57_18 s_57_19 s_57_20 q962.2.2 t_text q962.2.1 a_60 a_61 a_62 a_63 a_64 a_65 t_lines t_numbers t_letters t_names t_parts t_sorts t_values t_items a_74 a_75 l_76) (by decide) heq962 (Or.inl rfl) ?_
      refine xe_seg ok 3 (G := (fun K => xr_back K 61 xm_i61 xm_I61 0 0 130 [(0, .ref 59), (1, .int v1), (2, .int v2)] [] 78 true (K (58, xm_i58, xm_I58, 0, 0, 0, [(0, .ref 59), (1, .int ((59 : Int32)))], [], xw_R X t_thrown t_size s_57_18 s_57_19 s_57_20 q962.2.2 t_text q962.2.1 a_60 a_61 a_62 a_63 a_64 a_65 t_lines t_numbers t_letters t_names t_parts t_sorts t_values t_items a_74 a_75 l_76)))) (fun K => rfl) ?_
      obtain ⟨q963, hq963, h⟩ := Option.bind_eq_some_iff.mp h
      have heq963 := xh_rf_put_57 (l := l) (g := g) ok t_text a_60 a_61 a_62 a_63 a_64 a_65 t_lines t_numbers t_letters t_names t_parts t_sorts t_values t_items a_74 a_75 l_76 t_thrown t_size s_57_18 s_57_19 s_57_20 X q962.2.1 q962.2.2 ((59 : Int32)) _ hq963
      refine xe_call0 (ws' := xw_R X t_thrown t_size s_57_18 s_57_19 s_57_20 q963.2.2 t_text q963.2.1 a_60 a_61 a_62 a_63 a_64 a_65 t_lines t_numbers t_letters t_names t_parts t_sorts t_values t_items a_74 a_75 l_76) (by decide) heq963 (Or.inl rfl) ?_
      refine xe_seg ok 2 (G := (fun K => K (61, xm_i61, xm_I61, 0, 0, 12, [(0, .ref 59), (1, .int (v1 + (1 : Int32))), (2, .int v2)], [], xw_R X t_thrown t_size s_57_18 s_57_19 s_57_20 q963.2.2 t_text q963.2.1 a_60 a_61 a_62 a_63 a_64 a_65 t_lines t_numbers t_letters t_names t_parts t_sorts t_values t_items a_74 a_75 l_76))) (fun K => rfl) ?_
      refine xe_k ?_
      refine xe_sub [true, true, false] (lv' := [(0, .ref 59), (1, .int (v1 + (1 : Int32)))]) rfl ?_
      have hz := hk12 q963.2.1 t_size t_text t_thrown q963.2.2 (v1 + (1 : Int32)) _ h
      exact hz
set_option maxHeartbeats 400000 in
theorem xh_rf_write_57_46 {l : Launch} {g : xr_G} (ok : xr_OK xm_P) (a_60 a_61 a_62 a_63 a_64 a_65 a_74 a_75 : Nat → Int32) (l_76 : Nat → Int64) (s_57_18 s_57_19 s_57_20 : Int32) (X : Nat → xr_C) (t_items : (Nat → Int32)) (t_letters : (Nat → Int32)) (t_lines : (Nat → Int32)) (t_names : (Nat → Int32)) (t_numbers : (Nat → Int32)) (t_parts : (Nat → Int32)) (t_sorts : (Nat → Int32)) (t_values : (Nat → Int32)) {k12 : (Nat → Int32) → Int32 → (Nat → Int32) → Int32 → Int32 → Int32 → Option (Int32 × (Nat → Int32) × Int32 × (Nat → Int32) × Int32 × Int32)} (hk12 : ∀ (t_out : (Nat → Int32)) (t_size : Int32) (t_text : (Nat → Int32)) (t_thrown : Int32) (t_written : Int32) (v1 : Int32) (r : (Int32 × (Nat → Int32) × Int32 × (Nat → Int32) × Int32 × Int32)), k12 t_out t_size t_text t_thrown t_written v1 = some r → xV xm_P l g (61, xm_i61, xm_I61, 0, 0, 12, [(0, .ref 59), (1, .int v1)], [], xw_R X t_thrown t_size s_57_18 s_57_19 s_57_20 t_written t_text t_out a_60 a_61 a_62 a_63 a_64 a_65 t_lines t_numbers t_letters t_names t_parts t_sorts t_values t_items a_74 a_75 l_76) (.inl (some (.int r.1)), xw_R X r.2.2.2.2.1 r.2.2.1 s_57_18 s_57_19 s_57_20 r.2.2.2.2.2 r.2.2.2.1 r.2.1 a_60 a_61 a_62 a_63 a_64 a_65 t_lines t_numbers t_letters t_names t_parts t_sorts t_values t_items a_74 a_75 l_76)) (n : Nat) : ∀ (N : Nat) (t_out : (Nat → Int32)) (t_size : Int32) (t_text : (Nat → Int32)) (t_thrown : Int32) (t_written : Int32) (v1 : Int32) (v2 : Int32) (r : (Int32 × (Nat → Int32) × Int32 × (Nat → Int32) × Int32 × Int32)), xf_rf_write_46 t_items t_letters t_lines t_names t_numbers t_parts t_sorts t_values k12 n N t_out t_size t_text t_thrown t_written v1 v2 = some r → xV xm_P l g (61, xm_i61, xm_I61, 0, 0, 46, [(0, .ref 59), (1, .int v1), (2, .int v2)], [], xw_R X t_thrown t_size s_57_18 s_57_19 s_57_20 t_written t_text t_out a_60 a_61 a_62 a_63 a_64 a_65 t_lines t_numbers t_letters t_names t_parts t_sorts t_values t_items a_74 a_75 l_76) (.inl (some (.int r.1)), xw_R X r.2.2.2.2.1 r.2.2.1 s_57_18 s_57_19 s_57_20 r.2.2.2.2.2 r.2.2.2.1 r.2.1 a_60 a_61 a_62 a_63 a_64 a_65 t_lines t_numbers t_letters t_names t_parts t_sorts t_values t_items a_74 a_75 l_76) := by
  intro N
  induction N with
  | zero => intro t_out t_size t_text t_thrown t_written v1 v2 r h; cases h
  | succ N hk46 =>
    intro t_out t_size t_text t_thrown t_written v1 v2 r h
    refine xe_seg ok 5 (G := (fun K => if xr_in v1 120 = true then K (61, xm_i61, xm_I61, 0, 0, 53, [(0, .ref 59), (1, .int v1), (2, .int v2)], [.int (t_letters v1.toNatClampNeg), .int v2], xw_R X t_thrown t_size s_57_18 s_57_19 s_57_20 t_written t_text t_out a_60 a_61 a_62 a_63 a_64 a_65 t_lines t_numbers t_letters t_names t_parts t_sorts t_values t_items a_74 a_75 l_76) else none)) (fun K => rfl) ?_
    obtain ⟨hg913, h⟩ := xn_if h
    refine xe_pos hg913 (xe_k ?_)
    refine xe_seg ok 1 (G := (fun K => if v2 < (t_letters v1.toNatClampNeg) then K (61, xm_i61, xm_I61, 0, 0, 56, [(0, .ref 59), (1, .int v1), (2, .int v2)], [], xw_R X t_thrown t_size s_57_18 s_57_19 s_57_20 t_written t_text t_out a_60 a_61 a_62 a_63 a_64 a_65 t_lines t_numbers t_letters t_names t_parts t_sorts t_values t_items a_74 a_75 l_76) else K (61, xm_i61, xm_I61, 0, 0, 77, [(0, .ref 59), (1, .int v1), (2, .int v2)], [], xw_R X t_thrown t_size s_57_18 s_57_19 s_57_20 t_written t_text t_out a_60 a_61 a_62 a_63 a_64 a_65 t_lines t_numbers t_letters t_names t_parts t_sorts t_values t_items a_74 a_75 l_76))) (fun K => rfl) ?_
    rcases xb_if h with ⟨hc914, h⟩ | ⟨hc914, h⟩
    · refine xe_pos hc914 (xe_k ?_)
      refine xe_seg ok 9 (G := (fun K => if xr_in ((((8 : Int32)) * v1) + v2) 960 = true then K (61, xm_i61, xm_I61, 0, 0, 68, [(0, .ref 59), (1, .int v1), (2, .int v2)], [.int (t_names ((((8 : Int32)) * v1) + v2).toNatClampNeg), .ref 59], xw_R X t_thrown t_size s_57_18 s_57_19 s_57_20 t_written t_text t_out a_60 a_61 a_62 a_63 a_64 a_65 t_lines t_numbers t_letters t_names t_parts t_sorts t_values t_items a_74 a_75 l_76) else none)) (fun K => rfl) ?_
      obtain ⟨hg915, h⟩ := xn_if h
      refine xe_pos hg915 (xe_k ?_)
      refine xe_seg ok 1 (G := (fun K => xr_back K 61 xm_i61 xm_I61 0 0 68 [(0, .ref 59), (1, .int v1), (2, .int v2)] [] 78 true (K (58, xm_i58, xm_I58, 0, 0, 0, [(0, .ref 59), (1, .int (t_names ((((8 : Int32)) * v1) + v2).toNatClampNeg))], [], xw_R X t_thrown t_size s_57_18 s_57_19 s_57_20 t_written t_text t_out a_60 a_61 a_62 a_63 a_64 a_65 t_lines t_numbers t_letters t_names t_parts t_sorts t_values t_items a_74 a_75 l_76)))) (fun K => rfl) ?_
      obtain ⟨q916, hq916, h⟩ := Option.bind_eq_some_iff.mp h
      have heq916 := xh_rf_put_57 (l := l) (g := g) ok t_text a_60 a_61 a_62 a_63 a_64 a_65 t_lines t_numbers t_letters t_names t_parts t_sorts t_values t_items a_74 a_75 l_76 t_thrown t_size s_57_18 s_57_19 s_57_20 X t_out t_written (t_names ((((8 : Int32)) * v1) + v2).toNatClampNeg) _ hq916
      refine xe_call0 (ws' := xw_R X t_thrown t_size s_57_18 s_57_19 s_57_20 q916.2.2 t_text q916.2.1 a_60 a_61 a_62 a_63 a_64 a_65 t_lines t_numbers t_letters t_names t_parts t_sorts t_values t_items a_74 a_75 l_76) (by decide) heq916 (Or.inl rfl) ?_
      refine xe_seg ok 2 (G := (fun K => K (61, xm_i61, xm_I61, 0, 0, 46, [(0, .ref 59), (1, .int v1), (2, .int (v2 + (1 : Int32)))], [], xw_R X t_thrown t_size s_57_18 s_57_19 s_57_20 q916.2.2 t_text q916.2.1 a_60 a_61 a_62 a_63 a_64 a_65 t_lines t_numbers t_letters t_names t_parts t_sorts t_values t_items a_74 a_75 l_76))) (fun K => rfl) ?_
      refine xe_k ?_
      refine xe_sub [true, true, true] (lv' := [(0, .ref 59), (1, .int v1), (2, .int (v2 + (1 : Int32)))]) rfl ?_
      have hz := hk46 q916.2.1 t_size t_text t_thrown q916.2.2 v1 (v2 + (1 : Int32)) _ h
      exact hz
    · refine xe_neg hc914 (xe_k ?_)
      refine xe_seg ok 3 (G := (fun K => xr_back K 61 xm_i61 xm_I61 0 0 80 [(0, .ref 59), (1, .int v1), (2, .int v2)] [] 78 true (K (58, xm_i58, xm_I58, 0, 0, 0, [(0, .ref 59), (1, .int ((40 : Int32)))], [], xw_R X t_thrown t_size s_57_18 s_57_19 s_57_20 t_written t_text t_out a_60 a_61 a_62 a_63 a_64 a_65 t_lines t_numbers t_letters t_names t_parts t_sorts t_values t_items a_74 a_75 l_76)))) (fun K => rfl) ?_
      obtain ⟨q917, hq917, h⟩ := Option.bind_eq_some_iff.mp h
      have heq917 := xh_rf_put_57 (l := l) (g := g) ok t_text a_60 a_61 a_62 a_63 a_64 a_65 t_lines t_numbers t_letters t_names t_parts t_sorts t_values t_items a_74 a_75 l_76 t_thrown t_size s_57_18 s_57_19 s_57_20 X t_out t_written ((40 : Int32)) _ hq917
      refine xe_call0 (ws' := xw_R X t_thrown t_size s_57_18 s_57_19 s_57_20 q917.2.2 t_text q917.2.1 a_60 a_61 a_62 a_63 a_64 a_65 t_lines t_numbers t_letters t_names t_parts t_sorts t_values t_items a_74 a_75 l_76) (by decide) heq917 (Or.inl rfl) ?_
      refine xe_seg ok 2 (G := (fun K => K (61, xm_i61, xm_I61, 0, 0, 85, [(0, .ref 59), (1, .int v1), (2, .int ((0 : Int32)))], [], xw_R X t_thrown t_size s_57_18 s_57_19 s_57_20 q917.2.2 t_text q917.2.1 a_60 a_61 a_62 a_63 a_64 a_65 t_lines t_numbers t_letters t_names t_parts t_sorts t_values t_items a_74 a_75 l_76))) (fun K => rfl) ?_
      refine xe_k ?_
      refine xe_sub [true, true, true] (lv' := [(0, .ref 59), (1, .int v1), (2, .int ((0 : Int32)))]) rfl ?_
      have hz := xh_rf_write_57_85 (l := l) (g := g) ok a_60 a_61 a_62 a_63 a_64 a_65 a_74 a_75 l_76 s_57_18 s_57_19 s_57_20 X t_items t_letters t_lines t_names t_numbers t_parts t_sorts t_values hk12 n n q917.2.1 t_size t_text t_thrown q917.2.2 v1 ((0 : Int32)) _ h
      exact hz
set_option maxHeartbeats 400000 in
theorem xh_rf_write_57_154 {l : Launch} {g : xr_G} (ok : xr_OK xm_P) (a_60 a_61 a_62 a_63 a_64 a_65 a_74 a_75 : Nat → Int32) (l_76 : Nat → Int64) (s_57_18 s_57_19 s_57_20 : Int32) (X : Nat → xr_C) (t_items : (Nat → Int32)) (t_letters : (Nat → Int32)) (t_lines : (Nat → Int32)) (t_names : (Nat → Int32)) (t_numbers : (Nat → Int32)) (t_parts : (Nat → Int32)) (t_sorts : (Nat → Int32)) (t_values : (Nat → Int32)) (n : Nat) : ∀ (N : Nat) (t_out : (Nat → Int32)) (t_size : Int32) (t_text : (Nat → Int32)) (t_thrown : Int32) (t_written : Int32) (v1 : Int32) (r : (Int32 × (Nat → Int32) × Int32 × (Nat → Int32) × Int32 × Int32)), xf_rf_write_154 t_items t_letters t_lines t_names t_numbers t_parts t_sorts t_values n N t_out t_size t_text t_thrown t_written v1 = some r → xV xm_P l g (61, xm_i61, xm_I61, 0, 0, 154, [(0, .ref 59), (1, .int v1)], [], xw_R X t_thrown t_size s_57_18 s_57_19 s_57_20 t_written t_text t_out a_60 a_61 a_62 a_63 a_64 a_65 t_lines t_numbers t_letters t_names t_parts t_sorts t_values t_items a_74 a_75 l_76) (.inl (some (.int r.1)), xw_R X r.2.2.2.2.1 r.2.2.1 s_57_18 s_57_19 s_57_20 r.2.2.2.2.2 r.2.2.2.1 r.2.1 a_60 a_61 a_62 a_63 a_64 a_65 t_lines t_numbers t_letters t_names t_parts t_sorts t_values t_items a_74 a_75 l_76) := by
  intro N
  induction N with
  | zero => intro t_out t_size t_text t_thrown t_written v1 r h; cases h
  | succ N hk154 =>
    intro t_out t_size t_text t_thrown t_written v1 r h
    refine xe_seg ok 4 (G := (fun K => if v1 < t_written then K (61, xm_i61, xm_I61, 0, 0, 162, [(0, .ref 59), (1, .int v1)], [], xw_R X t_thrown t_size s_57_18 s_57_19 s_57_20 t_written t_text t_out a_60 a_61 a_62 a_63 a_64 a_65 t_lines t_numbers t_letters t_names t_parts t_sorts t_values t_items a_74 a_75 l_76) else K (61, xm_i61, xm_I61, 0, 0, 180, [(0, .ref 59), (1, .int v1)], [], xw_R X t_thrown t_size s_57_18 s_57_19 s_57_20 t_written t_text t_out a_60 a_61 a_62 a_63 a_64 a_65 t_lines t_numbers t_letters t_names t_parts t_sorts t_values t_items a_74 a_75 l_76))) (fun K => rfl) ?_
    rcases xb_if h with ⟨hc965, h⟩ | ⟨hc965, h⟩
    · refine xe_pos hc965 (xe_k ?_)
      refine xe_seg ok 7 (G := (fun K => if xr_in v1 1200 = true then K (61, xm_i61, xm_I61, 0, 0, 173, [(0, .ref 59), (1, .int v1)], [.int (t_out v1.toNatClampNeg), .int v1, .ref 60], xw_R X t_thrown t_size s_57_18 s_57_19 s_57_20 t_written t_text t_out a_60 a_61 a_62 a_63 a_64 a_65 t_lines t_numbers t_letters t_names t_parts t_sorts t_values t_items a_74 a_75 l_76) else none)) (fun K => rfl) ?_
      obtain ⟨hg966, h⟩ := xn_if h
      refine xe_pos hg966 (xe_k ?_)
      refine xe_seg ok 1 (G := (fun K => if xr_in v1 1200 = true then K (61, xm_i61, xm_I61, 0, 0, 174, [(0, .ref 59), (1, .int v1)], [], xw_R X t_thrown t_size s_57_18 s_57_19 s_57_20 t_written (upd t_text v1.toNatClampNeg ((t_out v1.toNatClampNeg))) t_out a_60 a_61 a_62 a_63 a_64 a_65 t_lines t_numbers t_letters t_names t_parts t_sorts t_values t_items a_74 a_75 l_76) else none)) (fun K => rfl) ?_
      obtain ⟨hg967, h⟩ := xn_if h
      refine xe_pos hg967 (xe_k ?_)
      refine xe_seg ok 2 (G := (fun K => K (61, xm_i61, xm_I61, 0, 0, 154, [(0, .ref 59), (1, .int (v1 + (1 : Int32)))], [], xw_R X t_thrown t_size s_57_18 s_57_19 s_57_20 t_written (upd t_text v1.toNatClampNeg ((t_out v1.toNatClampNeg))) t_out a_60 a_61 a_62 a_63 a_64 a_65 t_lines t_numbers t_letters t_names t_parts t_sorts t_values t_items a_74 a_75 l_76))) (fun K => rfl) ?_
      refine xe_k ?_
      refine xe_sub [true, true] (lv' := [(0, .ref 59), (1, .int (v1 + (1 : Int32)))]) rfl ?_
      have hz := hk154 t_out t_size (upd t_text v1.toNatClampNeg ((t_out v1.toNatClampNeg))) t_thrown t_written (v1 + (1 : Int32)) _ h
      exact hz
    · refine xe_neg hc965 (xe_k ?_)
      obtain rfl := Option.some.inj h
      refine xe_seg ok 7 (G := (fun _ => some (.inl (some (.int t_written)), xw_R X t_thrown t_written s_57_18 s_57_19 s_57_20 t_written t_text t_out a_60 a_61 a_62 a_63 a_64 a_65 t_lines t_numbers t_letters t_names t_parts t_sorts t_values t_items a_74 a_75 l_76))) (fun K => rfl) ?_
      exact xe_ret
set_option maxHeartbeats 400000 in
theorem xh_rf_write_57_12 {l : Launch} {g : xr_G} (ok : xr_OK xm_P) (a_60 a_61 a_62 a_63 a_64 a_65 a_74 a_75 : Nat → Int32) (l_76 : Nat → Int64) (s_57_18 s_57_19 s_57_20 : Int32) (X : Nat → xr_C) (t_items : (Nat → Int32)) (t_letters : (Nat → Int32)) (t_lines : (Nat → Int32)) (t_names : (Nat → Int32)) (t_numbers : (Nat → Int32)) (t_parts : (Nat → Int32)) (t_sorts : (Nat → Int32)) (t_values : (Nat → Int32)) (n : Nat) : ∀ (N : Nat) (t_out : (Nat → Int32)) (t_size : Int32) (t_text : (Nat → Int32)) (t_thrown : Int32) (t_written : Int32) (v1 : Int32) (r : (Int32 × (Nat → Int32) × Int32 × (Nat → Int32) × Int32 × Int32)), xf_rf_write_12 t_items t_letters t_lines t_names t_numbers t_parts t_sorts t_values n N t_out t_size t_text t_thrown t_written v1 = some r → xV xm_P l g (61, xm_i61, xm_I61, 0, 0, 12, [(0, .ref 59), (1, .int v1)], [], xw_R X t_thrown t_size s_57_18 s_57_19 s_57_20 t_written t_text t_out a_60 a_61 a_62 a_63 a_64 a_65 t_lines t_numbers t_letters t_names t_parts t_sorts t_values t_items a_74 a_75 l_76) (.inl (some (.int r.1)), xw_R X r.2.2.2.2.1 r.2.2.1 s_57_18 s_57_19 s_57_20 r.2.2.2.2.2 r.2.2.2.1 r.2.1 a_60 a_61 a_62 a_63 a_64 a_65 t_lines t_numbers t_letters t_names t_parts t_sorts t_values t_items a_74 a_75 l_76) := by
  intro N
  induction N with
  | zero => intro t_out t_size t_text t_thrown t_written v1 r h; cases h
  | succ N hk12 =>
    intro t_out t_size t_text t_thrown t_written v1 r h
    refine xe_seg ok 5 (G := (fun K => if xr_in ((0 : Int32)) 3 = true then K (61, xm_i61, xm_I61, 0, 0, 19, [(0, .ref 59), (1, .int v1)], [.int (t_lines ((0 : Int32)).toNatClampNeg), .int v1], xw_R X t_thrown t_size s_57_18 s_57_19 s_57_20 t_written t_text t_out a_60 a_61 a_62 a_63 a_64 a_65 t_lines t_numbers t_letters t_names t_parts t_sorts t_values t_items a_74 a_75 l_76) else none)) (fun K => rfl) ?_
    refine xe_pos (by decide) (xe_k ?_)
    refine xe_seg ok 1 (G := (fun K => if v1 < (t_lines ((0 : Int32)).toNatClampNeg) then K (61, xm_i61, xm_I61, 0, 0, 22, [(0, .ref 59), (1, .int v1)], [], xw_R X t_thrown t_size s_57_18 s_57_19 s_57_20 t_written t_text t_out a_60 a_61 a_62 a_63 a_64 a_65 t_lines t_numbers t_letters t_names t_parts t_sorts t_values t_items a_74 a_75 l_76) else K (61, xm_i61, xm_I61, 0, 0, 139, [(0, .ref 59), (1, .int v1)], [], xw_R X t_thrown t_size s_57_18 s_57_19 s_57_20 t_written t_text t_out a_60 a_61 a_62 a_63 a_64 a_65 t_lines t_numbers t_letters t_names t_parts t_sorts t_values t_items a_74 a_75 l_76))) (fun K => rfl) ?_
    rcases xb_if h with ⟨hc896, h⟩ | ⟨hc896, h⟩
    · refine xe_pos hc896 (xe_k ?_)
      refine xe_seg ok 3 (G := (fun K => xr_back K 61 xm_i61 xm_I61 0 0 25 [(0, .ref 59), (1, .int v1)] [] 78 true (K (58, xm_i58, xm_I58, 0, 0, 0, [(0, .ref 59), (1, .int ((35 : Int32)))], [], xw_R X t_thrown t_size s_57_18 s_57_19 s_57_20 t_written t_text t_out a_60 a_61 a_62 a_63 a_64 a_65 t_lines t_numbers t_letters t_names t_parts t_sorts t_values t_items a_74 a_75 l_76)))) (fun K => rfl) ?_
      obtain ⟨q899, hq899, h⟩ := Option.bind_eq_some_iff.mp h
      have heq899 := xh_rf_put_57 (l := l) (g := g) ok t_text a_60 a_61 a_62 a_63 a_64 a_65 t_lines t_numbers t_letters t_names t_parts t_sorts t_values t_items a_74 a_75 l_76 t_thrown t_size s_57_18 s_57_19 s_57_20 X t_out t_written ((35 : Int32)) _ hq899
      refine xe_call0 (ws' := xw_R X t_thrown t_size s_57_18 s_57_19 s_57_20 q899.2.2 t_text q899.2.1 a_60 a_61 a_62 a_63 a_64 a_65 t_lines t_numbers t_letters t_names t_parts t_sorts t_values t_items a_74 a_75 l_76) (by decide) heq899 (Or.inl rfl) ?_
      refine xe_seg ok 5 (G := (fun K => if xr_in v1 120 = true then K (61, xm_i61, xm_I61, 0, 0, 35, [(0, .ref 59), (1, .int v1)], [.int (t_numbers v1.toNatClampNeg), .ref 59], xw_R X t_thrown t_size s_57_18 s_57_19 s_57_20 q899.2.2 t_text q899.2.1 a_60 a_61 a_62 a_63 a_64 a_65 t_lines t_numbers t_letters t_names t_parts t_sorts t_values t_items a_74 a_75 l_76) else none)) (fun K => rfl) ?_
      obtain ⟨hg900, h⟩ := xn_if h
      refine xe_pos hg900 (xe_k ?_)
      refine xe_seg ok 1 (G := (fun K => xr_back K 61 xm_i61 xm_I61 0 0 35 [(0, .ref 59), (1, .int v1)] [] 78 true (K (59, xm_i59, xm_I59, 0, 0, 0, [(0, .ref 59), (1, .int (t_numbers v1.toNatClampNeg))], [], xw_R X t_thrown t_size s_57_18 s_57_19 s_57_20 q899.2.2 t_text q899.2.1 a_60 a_61 a_62 a_63 a_64 a_65 t_lines t_numbers t_letters t_names t_parts t_sorts t_values t_items a_74 a_75 l_76)))) (fun K => rfl) ?_
      obtain ⟨q911, hq911, h⟩ := Option.bind_eq_some_iff.mp h
      have heq911 := xh_rf_putNumber_57 (l := l) (g := g) ok t_text a_60 a_61 a_62 a_63 a_64 a_65 t_lines t_numbers t_letters t_names t_parts t_sorts t_values t_items a_74 a_75 l_76 t_thrown t_size s_57_18 s_57_19 s_57_20 X n q899.2.1 q899.2.2 (t_numbers v1.toNatClampNeg) _ hq911
      refine xe_call0 (ws' := xw_R X t_thrown t_size s_57_18 s_57_19 s_57_20 q911.2.2 t_text q911.2.1 a_60 a_61 a_62 a_63 a_64 a_65 t_lines t_numbers t_letters t_names t_parts t_sorts t_values t_items a_74 a_75 l_76) (by decide) heq911 (Or.inl rfl) ?_
      refine xe_seg ok 3 (G := (fun K => xr_back K 61 xm_i61 xm_I61 0 0 41 [(0, .ref 59), (1, .int v1)] [] 78 true (K (58, xm_i58, xm_I58, 0, 0, 0, [(0, .ref 59), (1, .int ((61 : Int32)))], [], xw_R X t_thrown t_size s_57_18 s_57_19 s_57_20 q911.2.2 t_text q911.2.1 a_60 a_61 a_62 a_63 a_64 a_65 t_lines t_numbers t_letters t_names t_parts t_sorts t_values t_items a_74 a_75 l_76)))) (fun K => rfl) ?_
      obtain ⟨q912, hq912, h⟩ := Option.bind_eq_some_iff.mp h
      have heq912 := xh_rf_put_57 (l := l) (g := g) ok t_text a_60 a_61 a_62 a_63 a_64 a_65 t_lines t_numbers t_letters t_names t_parts t_sorts t_values t_items a_74 a_75 l_76 t_thrown t_size s_57_18 s_57_19 s_57_20 X q911.2.1 q911.2.2 ((61 : Int32)) _ hq912
      refine xe_call0 (ws' := xw_R X t_thrown t_size s_57_18 s_57_19 s_57_20 q912.2.2 t_text q912.2.1 a_60 a_61 a_62 a_63 a_64 a_65 t_lines t_numbers t_letters t_names t_parts t_sorts t_values t_items a_74 a_75 l_76) (by decide) heq912 (Or.inl rfl) ?_
      refine xe_seg ok 2 (G := (fun K => K (61, xm_i61, xm_I61, 0, 0, 46, [(0, .ref 59), (1, .int v1), (2, .int ((0 : Int32)))], [], xw_R X t_thrown t_size s_57_18 s_57_19 s_57_20 q912.2.2 t_text q912.2.1 a_60 a_61 a_62 a_63 a_64 a_65 t_lines t_numbers t_letters t_names t_parts t_sorts t_values t_items a_74 a_75 l_76))) (fun K => rfl) ?_
      refine xe_k ?_
      refine xe_sub [true, true, true] (lv' := [(0, .ref 59), (1, .int v1), (2, .int ((0 : Int32)))]) rfl ?_
      have hz := xh_rf_write_57_46 (l := l) (g := g) ok a_60 a_61 a_62 a_63 a_64 a_65 a_74 a_75 l_76 s_57_18 s_57_19 s_57_20 X t_items t_letters t_lines t_names t_numbers t_parts t_sorts t_values hk12 n n q912.2.1 t_size t_text t_thrown q912.2.2 v1 ((0 : Int32)) _ h
      exact hz
    · refine xe_neg hc896 (xe_k ?_)
      refine xe_seg ok 4 (G := (fun K => if ((1200 : Int32)) < t_written then K (61, xm_i61, xm_I61, 0, 0, 149, [(0, .ref 59), (1, .int v1)], [], xw_R X t_thrown t_size s_57_18 s_57_19 s_57_20 t_written t_text t_out a_60 a_61 a_62 a_63 a_64 a_65 t_lines t_numbers t_letters t_names t_parts t_sorts t_values t_items a_74 a_75 l_76) else K (61, xm_i61, xm_I61, 0, 0, 152, [(0, .ref 59), (1, .int v1)], [], xw_R X t_thrown t_size s_57_18 s_57_19 s_57_20 t_written t_text t_out a_60 a_61 a_62 a_63 a_64 a_65 t_lines t_numbers t_letters t_names t_parts t_sorts t_values t_items a_74 a_75 l_76))) (fun K => rfl) ?_
      rcases xb_if h with ⟨hc964, h⟩ | ⟨hc964, h⟩
      · refine xe_pos hc964 (xe_k ?_)
        obtain rfl := Option.some.inj h
        refine xe_seg ok 2 (G := (fun _ => some (.inl (some (.int ((-2 : Int32)))), xw_R X t_thrown t_size s_57_18 s_57_19 s_57_20 t_written t_text t_out a_60 a_61 a_62 a_63 a_64 a_65 t_lines t_numbers t_letters t_names t_parts t_sorts t_values t_items a_74 a_75 l_76))) (fun K => rfl) ?_
        exact xe_ret
      · refine xe_neg hc964 (xe_k ?_)
        refine xe_seg ok 2 (G := (fun K => K (61, xm_i61, xm_I61, 0, 0, 154, [(0, .ref 59), (1, .int ((0 : Int32)))], [], xw_R X t_thrown t_size s_57_18 s_57_19 s_57_20 t_written t_text t_out a_60 a_61 a_62 a_63 a_64 a_65 t_lines t_numbers t_letters t_names t_parts t_sorts t_values t_items a_74 a_75 l_76))) (fun K => rfl) ?_
        refine xe_k ?_
        refine xe_sub [true, true] (lv' := [(0, .ref 59), (1, .int ((0 : Int32)))]) rfl ?_
        have hz := xh_rf_write_57_154 (l := l) (g := g) ok a_60 a_61 a_62 a_63 a_64 a_65 a_74 a_75 l_76 s_57_18 s_57_19 s_57_20 X t_items t_letters t_lines t_names t_numbers t_parts t_sorts t_values n n t_out t_size t_text t_thrown t_written ((0 : Int32)) _ h
        exact hz
set_option maxHeartbeats 400000 in
theorem xh_rf_write_57 {l : Launch} {g : xr_G} (ok : xr_OK xm_P) (a_60 a_61 a_62 a_63 a_64 a_65 a_74 a_75 : Nat → Int32) (l_76 : Nat → Int64) (s_57_18 s_57_19 s_57_20 : Int32) (X : Nat → xr_C) (t_items : (Nat → Int32)) (t_letters : (Nat → Int32)) (t_lines : (Nat → Int32)) (t_names : (Nat → Int32)) (t_numbers : (Nat → Int32)) (t_parts : (Nat → Int32)) (t_sorts : (Nat → Int32)) (t_values : (Nat → Int32)) (n : Nat) : ∀ (t_out : (Nat → Int32)) (t_size : Int32) (t_text : (Nat → Int32)) (t_thrown : Int32) (t_written : Int32) (r : (Int32 × (Nat → Int32) × Int32 × (Nat → Int32) × Int32 × Int32)), xf_rf_write t_items t_letters t_lines t_names t_numbers t_parts t_sorts t_values n t_out t_size t_text t_thrown t_written = some r → xV xm_P l g (61, xm_i61, xm_I61, 0, 0, 0, [(0, .ref 59)], [], xw_R X t_thrown t_size s_57_18 s_57_19 s_57_20 t_written t_text t_out a_60 a_61 a_62 a_63 a_64 a_65 t_lines t_numbers t_letters t_names t_parts t_sorts t_values t_items a_74 a_75 l_76) (.inl (some (.int r.1)), xw_R X r.2.2.2.2.1 r.2.2.1 s_57_18 s_57_19 s_57_20 r.2.2.2.2.2 r.2.2.2.1 r.2.1 a_60 a_61 a_62 a_63 a_64 a_65 t_lines t_numbers t_letters t_names t_parts t_sorts t_values t_items a_74 a_75 l_76) := by
  intro t_out t_size t_text t_thrown t_written r h
  unfold xf_rf_write at h
  refine xe_seg ok 8 (G := (fun K => K (61, xm_i61, xm_I61, 0, 0, 12, [(0, .ref 59), (1, .int ((0 : Int32)))], [], xw_R X ((0 : Int32)) t_size s_57_18 s_57_19 s_57_20 ((0 : Int32)) t_text t_out a_60 a_61 a_62 a_63 a_64 a_65 t_lines t_numbers t_letters t_names t_parts t_sorts t_values t_items a_74 a_75 l_76))) (fun K => rfl) ?_
  refine xe_k ?_
  refine xe_sub [true, true] (lv' := [(0, .ref 59), (1, .int ((0 : Int32)))]) rfl ?_
  have hz := xh_rf_write_57_12 (l := l) (g := g) ok a_60 a_61 a_62 a_63 a_64 a_65 a_74 a_75 l_76 s_57_18 s_57_19 s_57_20 X t_items t_letters t_lines t_names t_numbers t_parts t_sorts t_values n n t_out t_size t_text ((0 : Int32)) ((0 : Int32)) ((0 : Int32)) _ h
  exact hz
set_option maxHeartbeats 400000 in
theorem xh_rf_keep_57_19 {l : Launch} {g : xr_G} (ok : xr_OK xm_P) (a_58 a_59 a_60 a_61 a_62 a_63 a_64 a_65 a_74 a_75 : Nat → Int32) (l_76 : Nat → Int64) (s_57_1 s_57_18 s_57_19 s_57_20 s_57_24 : Int32) (X : Nat → xr_C) (n : Nat) : ∀ (N : Nat) (t_items : (Nat → Int32)) (t_letters : (Nat → Int32)) (t_lines : (Nat → Int32)) (t_names : (Nat → Int32)) (t_numbers : (Nat → Int32)) (t_parts : (Nat → Int32)) (t_sorts : (Nat → Int32)) (t_thrown : Int32) (t_values : (Nat → Int32)) (v1 : Int32) (r : (Int32 × (Nat → Int32) × (Nat → Int32) × (Nat → Int32) × (Nat → Int32) × (Nat → Int32) × (Nat → Int32) × (Nat → Int32) × Int32 × (Nat → Int32))), xf_rf_keep_19 n N t_items t_letters t_lines t_names t_numbers t_parts t_sorts t_thrown t_values v1 = some r → xV xm_P l g (62, xm_i62, xm_I62, 0, 0, 19, [(0, .ref 59), (1, .int v1)], [], xw_R X t_thrown s_57_1 s_57_18 s_57_19 s_57_20 s_57_24 a_58 a_59 a_60 a_61 a_62 a_63 a_64 a_65 t_lines t_numbers t_letters t_names t_parts t_sorts t_values t_items a_74 a_75 l_76) (.inl (some (.int r.1)), xw_R X r.2.2.2.2.2.2.2.2.1 s_57_1 s_57_18 s_57_19 s_57_20 s_57_24 a_58 a_59 a_60 a_61 a_62 a_63 a_64 a_65 r.2.2.2.1 r.2.2.2.2.2.1 r.2.2.1 r.2.2.2.2.1 r.2.2.2.2.2.2.1 r.2.2.2.2.2.2.2.1 r.2.2.2.2.2.2.2.2.2 r.2.1 a_74 a_75 l_76) := by
  intro N
  induction N with
  | zero => intro t_items t_letters t_lines t_names t_numbers t_parts t_sorts t_thrown t_values v1 r h; cases h
  | succ N hk19 =>
    intro t_items t_letters t_lines t_names t_numbers t_parts t_sorts t_thrown t_values v1 r h
    refine xe_seg ok 5 (G := (fun K => if xr_in ((0 : Int32)) 3 = true then K (62, xm_i62, xm_I62, 0, 0, 26, [(0, .ref 59), (1, .int v1)], [.int (t_lines ((0 : Int32)).toNatClampNeg), .int v1], xw_R X t_thrown s_57_1 s_57_18 s_57_19 s_57_20 s_57_24 a_58 a_59 a_60 a_61 a_62 a_63 a_64 a_65 t_lines t_numbers t_letters t_names t_parts t_sorts t_values t_items a_74 a_75 l_76) else none)) (fun K => rfl) ?_
    refine xe_pos (by decide) (xe_k ?_)
    refine xe_seg ok 1 (G := (fun K => if v1 < (t_lines ((0 : Int32)).toNatClampNeg) then K (62, xm_i62, xm_I62, 0, 0, 29, [(0, .ref 59), (1, .int v1)], [], xw_R X t_thrown s_57_1 s_57_18 s_57_19 s_57_20 s_57_24 a_58 a_59 a_60 a_61 a_62 a_63 a_64 a_65 t_lines t_numbers t_letters t_names t_parts t_sorts t_values t_items a_74 a_75 l_76) else K (62, xm_i62, xm_I62, 0, 0, 44, [(0, .ref 59), (1, .int v1)], [], xw_R X t_thrown s_57_1 s_57_18 s_57_19 s_57_20 s_57_24 a_58 a_59 a_60 a_61 a_62 a_63 a_64 a_65 t_lines t_numbers t_letters t_names t_parts t_sorts t_values t_items a_74 a_75 l_76))) (fun K => rfl) ?_
    rcases xb_if h with ⟨hc968, h⟩ | ⟨hc968, h⟩
    · refine xe_pos hc968 (xe_k ?_)
      refine xe_seg ok 6 (G := (fun K => xr_back K 62 xm_i62 xm_I62 0 0 35 [(0, .ref 59), (1, .int v1)] [] 78 true (K (56, xm_i56, xm_I56, 0, 0, 0, [(0, .ref 59), (1, .int (((80 : Int32)) + v1)), (2, .int v1)], [], xw_R X t_thrown s_57_1 s_57_18 s_57_19 s_57_20 s_57_24 a_58 a_59 a_60 a_61 a_62 a_63 a_64 a_65 t_lines t_numbers t_letters t_names t_parts t_sorts t_values t_items a_74 a_75 l_76)))) (fun K => rfl) ?_
      obtain ⟨q969, hq969, h⟩ := Option.bind_eq_some_iff.mp h
      have heq969 := xh_rf_copy_57 (l := l) (g := g) ok a_58 a_59 a_60 a_61 a_62 a_63 a_64 a_65 t_lines a_74 a_75 l_76 t_thrown s_57_1 s_57_18 s_57_19 s_57_20 s_57_24 X n t_items t_letters t_names t_numbers t_parts t_sorts t_values (((80 : Int32)) + v1) v1 _ hq969
      refine xe_call0 (ws' := xw_R X t_thrown s_57_1 s_57_18 s_57_19 s_57_20 s_57_24 a_58 a_59 a_60 a_61 a_62 a_63 a_64 a_65 t_lines q969.2.2.2.2.1 q969.2.2.1 q969.2.2.2.1 q969.2.2.2.2.2.1 q969.2.2.2.2.2.2.1 q969.2.2.2.2.2.2.2 q969.2.1 a_74 a_75 l_76) (by decide) heq969 (Or.inl rfl) ?_
      refine xe_seg ok 2 (G := (fun K => K (62, xm_i62, xm_I62, 0, 0, 19, [(0, .ref 59), (1, .int (v1 + (1 : Int32)))], [], xw_R X t_thrown s_57_1 s_57_18 s_57_19 s_57_20 s_57_24 a_58 a_59 a_60 a_61 a_62 a_63 a_64 a_65 t_lines q969.2.2.2.2.1 q969.2.2.1 q969.2.2.2.1 q969.2.2.2.2.2.1 q969.2.2.2.2.2.2.1 q969.2.2.2.2.2.2.2 q969.2.1 a_74 a_75 l_76))) (fun K => rfl) ?_
      refine xe_k ?_
      refine xe_sub [true, true] (lv' := [(0, .ref 59), (1, .int (v1 + (1 : Int32)))]) rfl ?_
      have hz := hk19 q969.2.1 q969.2.2.1 t_lines q969.2.2.2.1 q969.2.2.2.2.1 q969.2.2.2.2.2.1 q969.2.2.2.2.2.2.1 t_thrown q969.2.2.2.2.2.2.2 (v1 + (1 : Int32)) _ h
      exact hz
    · refine xe_neg hc968 (xe_k ?_)
      refine xe_seg ok 4 (G := (fun K => if xr_in ((2 : Int32)) 3 = true then K (62, xm_i62, xm_I62, 0, 0, 50, [(0, .ref 59), (1, .int v1)], [.int (t_lines ((2 : Int32)).toNatClampNeg)], xw_R X t_thrown s_57_1 s_57_18 s_57_19 s_57_20 s_57_24 a_58 a_59 a_60 a_61 a_62 a_63 a_64 a_65 t_lines t_numbers t_letters t_names t_parts t_sorts t_values t_items a_74 a_75 l_76) else none)) (fun K => rfl) ?_
      refine xe_pos (by decide) (xe_k ?_)
      obtain rfl := Option.some.inj h
      refine xe_seg ok 1 (G := (fun _ => some (.inl (some (.int (t_lines ((2 : Int32)).toNatClampNeg))), xw_R X t_thrown s_57_1 s_57_18 s_57_19 s_57_20 s_57_24 a_58 a_59 a_60 a_61 a_62 a_63 a_64 a_65 t_lines t_numbers t_letters t_names t_parts t_sorts t_values t_items a_74 a_75 l_76))) (fun K => rfl) ?_
      exact xe_ret
set_option maxHeartbeats 400000 in
theorem xh_rf_keep_57 {l : Launch} {g : xr_G} (ok : xr_OK xm_P) (a_58 a_59 a_60 a_61 a_62 a_63 a_64 a_65 a_74 a_75 : Nat → Int32) (l_76 : Nat → Int64) (s_57_1 s_57_18 s_57_19 s_57_20 s_57_24 : Int32) (X : Nat → xr_C) (n : Nat) : ∀ (t_items : (Nat → Int32)) (t_letters : (Nat → Int32)) (t_lines : (Nat → Int32)) (t_names : (Nat → Int32)) (t_numbers : (Nat → Int32)) (t_parts : (Nat → Int32)) (t_sorts : (Nat → Int32)) (t_thrown : Int32) (t_values : (Nat → Int32)) (r : (Int32 × (Nat → Int32) × (Nat → Int32) × (Nat → Int32) × (Nat → Int32) × (Nat → Int32) × (Nat → Int32) × (Nat → Int32) × Int32 × (Nat → Int32))), xf_rf_keep n t_items t_letters t_lines t_names t_numbers t_parts t_sorts t_thrown t_values = some r → xV xm_P l g (62, xm_i62, xm_I62, 0, 0, 0, [(0, .ref 59)], [], xw_R X t_thrown s_57_1 s_57_18 s_57_19 s_57_20 s_57_24 a_58 a_59 a_60 a_61 a_62 a_63 a_64 a_65 t_lines t_numbers t_letters t_names t_parts t_sorts t_values t_items a_74 a_75 l_76) (.inl (some (.int r.1)), xw_R X r.2.2.2.2.2.2.2.2.1 s_57_1 s_57_18 s_57_19 s_57_20 s_57_24 a_58 a_59 a_60 a_61 a_62 a_63 a_64 a_65 r.2.2.2.1 r.2.2.2.2.2.1 r.2.2.1 r.2.2.2.2.1 r.2.2.2.2.2.2.1 r.2.2.2.2.2.2.2.1 r.2.2.2.2.2.2.2.2.2 r.2.1 a_74 a_75 l_76) := by
  intro t_items t_letters t_lines t_names t_numbers t_parts t_sorts t_thrown t_values r h
  unfold xf_rf_keep at h
  refine xe_seg ok 10 (G := (fun K => if xr_in ((0 : Int32)) 3 = true then K (62, xm_i62, xm_I62, 0, 0, 16, [(0, .ref 59)], [.int (t_lines ((0 : Int32)).toNatClampNeg), .int ((2 : Int32)), .ref 68], xw_R X ((0 : Int32)) s_57_1 s_57_18 s_57_19 s_57_20 s_57_24 a_58 a_59 a_60 a_61 a_62 a_63 a_64 a_65 t_lines t_numbers t_letters t_names t_parts t_sorts t_values t_items a_74 a_75 l_76) else none)) (fun K => rfl) ?_
  refine xe_pos (by decide) (xe_k ?_)
  refine xe_seg ok 1 (G := (fun K => if xr_in ((2 : Int32)) 3 = true then K (62, xm_i62, xm_I62, 0, 0, 17, [(0, .ref 59)], [], xw_R X ((0 : Int32)) s_57_1 s_57_18 s_57_19 s_57_20 s_57_24 a_58 a_59 a_60 a_61 a_62 a_63 a_64 a_65 (upd t_lines ((2 : Int32)).toNatClampNeg ((t_lines ((0 : Int32)).toNatClampNeg))) t_numbers t_letters t_names t_parts t_sorts t_values t_items a_74 a_75 l_76) else none)) (fun K => rfl) ?_
  refine xe_pos (by decide) (xe_k ?_)
  refine xe_seg ok 2 (G := (fun K => K (62, xm_i62, xm_I62, 0, 0, 19, [(0, .ref 59), (1, .int ((0 : Int32)))], [], xw_R X ((0 : Int32)) s_57_1 s_57_18 s_57_19 s_57_20 s_57_24 a_58 a_59 a_60 a_61 a_62 a_63 a_64 a_65 (upd t_lines ((2 : Int32)).toNatClampNeg ((t_lines ((0 : Int32)).toNatClampNeg))) t_numbers t_letters t_names t_parts t_sorts t_values t_items a_74 a_75 l_76))) (fun K => rfl) ?_
  refine xe_k ?_
  refine xe_sub [true, true] (lv' := [(0, .ref 59), (1, .int ((0 : Int32)))]) rfl ?_
  have hz := xh_rf_keep_57_19 (l := l) (g := g) ok a_58 a_59 a_60 a_61 a_62 a_63 a_64 a_65 a_74 a_75 l_76 s_57_1 s_57_18 s_57_19 s_57_20 s_57_24 X n n t_items t_letters (upd t_lines ((2 : Int32)).toNatClampNeg ((t_lines ((0 : Int32)).toNatClampNeg))) t_names t_numbers t_parts t_sorts ((0 : Int32)) t_values ((0 : Int32)) _ h
  exact hz
set_option maxHeartbeats 400000 in
theorem xh_rf_line_57_44 {l : Launch} {g : xr_G} (ok : xr_OK xm_P) (a_58 a_59 a_60 a_61 a_62 a_63 a_64 a_65 a_68 a_69 a_70 a_71 a_72 a_73 a_74 a_75 : Nat → Int32) (l_76 : Nat → Int64) (s_57_1 s_57_18 s_57_19 s_57_20 s_57_24 : Int32) (X : Nat → xr_C) (t_lines : (Nat → Int32)) (t_numbers : (Nat → Int32)) : ∀ (t_thrown : Int32) (s0 : Int32) (r : (Int32 × Int32)), xf_rf_line_44 t_lines t_numbers t_thrown s0 = some r → xV xm_P l g (63, xm_i63, xm_I63, 0, 0, 44, [], [.int s0], xw_R X t_thrown s_57_1 s_57_18 s_57_19 s_57_20 s_57_24 a_58 a_59 a_60 a_61 a_62 a_63 a_64 a_65 t_lines t_numbers a_68 a_69 a_70 a_71 a_72 a_73 a_74 a_75 l_76) (.inl (some (.int r.1)), xw_R X r.2 s_57_1 s_57_18 s_57_19 s_57_20 s_57_24 a_58 a_59 a_60 a_61 a_62 a_63 a_64 a_65 t_lines t_numbers a_68 a_69 a_70 a_71 a_72 a_73 a_74 a_75 l_76) := by
  intro t_thrown s0 r h
  unfold xf_rf_line_44 at h
  obtain rfl := Option.some.inj h
  refine xe_seg ok 1 (G := (fun _ => some (.inl (some (.int s0)), xw_R X t_thrown s_57_1 s_57_18 s_57_19 s_57_20 s_57_24 a_58 a_59 a_60 a_61 a_62 a_63 a_64 a_65 t_lines t_numbers a_68 a_69 a_70 a_71 a_72 a_73 a_74 a_75 l_76))) (fun K => rfl) ?_
  exact xe_ret
set_option maxHeartbeats 400000 in
theorem xh_rf_line_57_15 {l : Launch} {g : xr_G} (ok : xr_OK xm_P) (a_58 a_59 a_60 a_61 a_62 a_63 a_64 a_65 a_68 a_69 a_70 a_71 a_72 a_73 a_74 a_75 : Nat → Int32) (l_76 : Nat → Int64) (s_57_1 s_57_18 s_57_19 s_57_20 s_57_24 : Int32) (X : Nat → xr_C) (t_lines : (Nat → Int32)) (t_numbers : (Nat → Int32)) : ∀ (t_thrown : Int32) (v1 : Int32) (s1 : Int32) (r : (Int32 × Int32)), xf_rf_line_15 t_lines t_numbers t_thrown v1 s1 = some r → xV xm_P l g (63, xm_i63, xm_I63, 0, 0, 15, [(0, .ref 59), (1, .int v1)], [.int s1, .ref 59], xw_R X t_thrown s_57_1 s_57_18 s_57_19 s_57_20 s_57_24 a_58 a_59 a_60 a_61 a_62 a_63 a_64 a_65 t_lines t_numbers a_68 a_69 a_70 a_71 a_72 a_73 a_74 a_75 l_76) (.inl (some (.int r.1)), xw_R X r.2 s_57_1 s_57_18 s_57_19 s_57_20 s_57_24 a_58 a_59 a_60 a_61 a_62 a_63 a_64 a_65 t_lines t_numbers a_68 a_69 a_70 a_71 a_72 a_73 a_74 a_75 l_76) := by
  intro t_thrown v1 s1 r h
  unfold xf_rf_line_15 at h
  refine xe_seg ok 2 (G := (fun K => xr_back K 63 xm_i63 xm_I63 0 0 16 [(0, .ref 59), (1, .int v1)] [] 78 true (K (32, xm_i32, xm_I32, 0, 0, 0, [(0, .ref 59), (1, .int s1), (2, .int ((1 : Int32)))], [], xw_R X t_thrown s_57_1 s_57_18 s_57_19 s_57_20 s_57_24 a_58 a_59 a_60 a_61 a_62 a_63 a_64 a_65 t_lines t_numbers a_68 a_69 a_70 a_71 a_72 a_73 a_74 a_75 l_76)))) (fun K => rfl) ?_
  obtain ⟨q971, hq971, h⟩ := Option.bind_eq_some_iff.mp h
  have heq971 := xh_rf_fails_57 (l := l) (g := g) ok a_58 a_59 a_60 a_61 a_62 a_63 a_64 a_65 t_lines t_numbers a_68 a_69 a_70 a_71 a_72 a_73 a_74 a_75 l_76 s_57_1 s_57_18 s_57_19 s_57_20 s_57_24 X t_thrown s1 ((1 : Int32)) _ hq971
  refine xe_call1 (ws' := xw_R X q971.2 s_57_1 s_57_18 s_57_19 s_57_20 s_57_24 a_58 a_59 a_60 a_61 a_62 a_63 a_64 a_65 t_lines t_numbers a_68 a_69 a_70 a_71 a_72 a_73 a_74 a_75 l_76) (by decide) heq971 (Or.inl rfl) ?_
  refine xe_seg ok 1 (G := (fun K => if q971.1 = (0 : Int32) then K (63, xm_i63, xm_I63, 0, 0, 24, [(0, .ref 59), (1, .int v1)], [], xw_R X q971.2 s_57_1 s_57_18 s_57_19 s_57_20 s_57_24 a_58 a_59 a_60 a_61 a_62 a_63 a_64 a_65 t_lines t_numbers a_68 a_69 a_70 a_71 a_72 a_73 a_74 a_75 l_76) else K (63, xm_i63, xm_I63, 0, 0, 22, [(0, .ref 59), (1, .int v1)], [], xw_R X q971.2 s_57_1 s_57_18 s_57_19 s_57_20 s_57_24 a_58 a_59 a_60 a_61 a_62 a_63 a_64 a_65 t_lines t_numbers a_68 a_69 a_70 a_71 a_72 a_73 a_74 a_75 l_76))) (fun K => rfl) ?_
  rcases xb_if h with ⟨hc972, h⟩ | ⟨hc972, h⟩
  · refine xe_pos hc972 (xe_k ?_)
    refine xe_seg ok 5 (G := (fun K => if xr_in ((0 : Int32)) 3 = true then K (63, xm_i63, xm_I63, 0, 0, 31, [(0, .ref 59), (1, .int v1)], [.int (t_lines ((0 : Int32)).toNatClampNeg), .int v1], xw_R X q971.2 s_57_1 s_57_18 s_57_19 s_57_20 s_57_24 a_58 a_59 a_60 a_61 a_62 a_63 a_64 a_65 t_lines t_numbers a_68 a_69 a_70 a_71 a_72 a_73 a_74 a_75 l_76) else none)) (fun K => rfl) ?_
    refine xe_pos (by decide) (xe_k ?_)
    refine xe_seg ok 1 (G := (fun K => if v1 < (t_lines ((0 : Int32)).toNatClampNeg) then K (63, xm_i63, xm_I63, 0, 0, 34, [(0, .ref 59), (1, .int v1)], [], xw_R X q971.2 s_57_1 s_57_18 s_57_19 s_57_20 s_57_24 a_58 a_59 a_60 a_61 a_62 a_63 a_64 a_65 t_lines t_numbers a_68 a_69 a_70 a_71 a_72 a_73 a_74 a_75 l_76) else K (63, xm_i63, xm_I63, 0, 0, 43, [(0, .ref 59), (1, .int v1)], [], xw_R X q971.2 s_57_1 s_57_18 s_57_19 s_57_20 s_57_24 a_58 a_59 a_60 a_61 a_62 a_63 a_64 a_65 t_lines t_numbers a_68 a_69 a_70 a_71 a_72 a_73 a_74 a_75 l_76))) (fun K => rfl) ?_
    rcases xb_if h with ⟨hc973, h⟩ | ⟨hc973, h⟩
    · refine xe_pos hc973 (xe_k ?_)
      refine xe_seg ok 4 (G := (fun K => if xr_in v1 120 = true then K (63, xm_i63, xm_I63, 0, 0, 40, [(0, .ref 59), (1, .int v1)], [.int (t_numbers v1.toNatClampNeg)], xw_R X q971.2 s_57_1 s_57_18 s_57_19 s_57_20 s_57_24 a_58 a_59 a_60 a_61 a_62 a_63 a_64 a_65 t_lines t_numbers a_68 a_69 a_70 a_71 a_72 a_73 a_74 a_75 l_76) else none)) (fun K => rfl) ?_
      obtain ⟨hg974, h⟩ := xn_if h
      refine xe_pos hg974 (xe_k ?_)
      refine xe_seg ok 1 (G := (fun K => K (63, xm_i63, xm_I63, 0, 0, 44, [(0, .ref 59), (1, .int v1)], [.int (t_numbers v1.toNatClampNeg)], xw_R X q971.2 s_57_1 s_57_18 s_57_19 s_57_20 s_57_24 a_58 a_59 a_60 a_61 a_62 a_63 a_64 a_65 t_lines t_numbers a_68 a_69 a_70 a_71 a_72 a_73 a_74 a_75 l_76))) (fun K => rfl) ?_
      refine xe_k ?_
      refine xe_sub [false, false] (lv' := []) rfl ?_
      have hz := xh_rf_line_57_44 (l := l) (g := g) ok a_58 a_59 a_60 a_61 a_62 a_63 a_64 a_65 a_68 a_69 a_70 a_71 a_72 a_73 a_74 a_75 l_76 s_57_1 s_57_18 s_57_19 s_57_20 s_57_24 X t_lines t_numbers q971.2 (t_numbers v1.toNatClampNeg) _ h
      exact hz
    · refine xe_neg hc973 (xe_k ?_)
      refine xe_seg ok 1 (G := (fun K => K (63, xm_i63, xm_I63, 0, 0, 44, [(0, .ref 59), (1, .int v1)], [.int ((-1 : Int32))], xw_R X q971.2 s_57_1 s_57_18 s_57_19 s_57_20 s_57_24 a_58 a_59 a_60 a_61 a_62 a_63 a_64 a_65 t_lines t_numbers a_68 a_69 a_70 a_71 a_72 a_73 a_74 a_75 l_76))) (fun K => rfl) ?_
      refine xe_k ?_
      refine xe_sub [false, false] (lv' := []) rfl ?_
      have hz := xh_rf_line_57_44 (l := l) (g := g) ok a_58 a_59 a_60 a_61 a_62 a_63 a_64 a_65 a_68 a_69 a_70 a_71 a_72 a_73 a_74 a_75 l_76 s_57_1 s_57_18 s_57_19 s_57_20 s_57_24 X t_lines t_numbers q971.2 ((-1 : Int32)) _ h
      exact hz
  · refine xe_neg hc972 (xe_k ?_)
    obtain rfl := Option.some.inj h
    refine xe_seg ok 2 (G := (fun _ => some (.inl (some (.int ((0 : Int32)))), xw_R X q971.2 s_57_1 s_57_18 s_57_19 s_57_20 s_57_24 a_58 a_59 a_60 a_61 a_62 a_63 a_64 a_65 t_lines t_numbers a_68 a_69 a_70 a_71 a_72 a_73 a_74 a_75 l_76))) (fun K => rfl) ?_
    exact xe_ret
set_option maxHeartbeats 400000 in
theorem xh_rf_line_57 {l : Launch} {g : xr_G} (ok : xr_OK xm_P) (a_58 a_59 a_60 a_61 a_62 a_63 a_64 a_65 a_68 a_69 a_70 a_71 a_72 a_73 a_74 a_75 : Nat → Int32) (l_76 : Nat → Int64) (s_57_1 s_57_18 s_57_19 s_57_20 s_57_24 : Int32) (X : Nat → xr_C) (t_lines : (Nat → Int32)) (t_numbers : (Nat → Int32)) : ∀ (t_thrown : Int32) (a1 : Int32) (r : (Int32 × Int32)), xf_rf_line t_lines t_numbers t_thrown a1 = some r → xV xm_P l g (63, xm_i63, xm_I63, 0, 0, 0, [(0, .ref 59), (1, .int a1)], [], xw_R X t_thrown s_57_1 s_57_18 s_57_19 s_57_20 s_57_24 a_58 a_59 a_60 a_61 a_62 a_63 a_64 a_65 t_lines t_numbers a_68 a_69 a_70 a_71 a_72 a_73 a_74 a_75 l_76) (.inl (some (.int r.1)), xw_R X r.2 s_57_1 s_57_18 s_57_19 s_57_20 s_57_24 a_58 a_59 a_60 a_61 a_62 a_63 a_64 a_65 t_lines t_numbers a_68 a_69 a_70 a_71 a_72 a_73 a_74 a_75 l_76) := by
  intro t_thrown a1 r h
  unfold xf_rf_line at h
  refine xe_seg ok 6 (G := (fun K => if a1 < (0 : Int32) then K (63, xm_i63, xm_I63, 0, 0, 10, [(0, .ref 59), (1, .int a1)], [.ref 59], xw_R X ((0 : Int32)) s_57_1 s_57_18 s_57_19 s_57_20 s_57_24 a_58 a_59 a_60 a_61 a_62 a_63 a_64 a_65 t_lines t_numbers a_68 a_69 a_70 a_71 a_72 a_73 a_74 a_75 l_76) else K (63, xm_i63, xm_I63, 0, 0, 14, [(0, .ref 59), (1, .int a1)], [.ref 59], xw_R X ((0 : Int32)) s_57_1 s_57_18 s_57_19 s_57_20 s_57_24 a_58 a_59 a_60 a_61 a_62 a_63 a_64 a_65 t_lines t_numbers a_68 a_69 a_70 a_71 a_72 a_73 a_74 a_75 l_76))) (fun K => rfl) ?_
  rcases xb_if h with ⟨hc970, h⟩ | ⟨hc970, h⟩
  · refine xe_pos hc970 (xe_k ?_)
    refine xe_seg ok 2 (G := (fun K => K (63, xm_i63, xm_I63, 0, 0, 15, [(0, .ref 59), (1, .int a1)], [.int ((1 : Int32)), .ref 59], xw_R X ((0 : Int32)) s_57_1 s_57_18 s_57_19 s_57_20 s_57_24 a_58 a_59 a_60 a_61 a_62 a_63 a_64 a_65 t_lines t_numbers a_68 a_69 a_70 a_71 a_72 a_73 a_74 a_75 l_76))) (fun K => rfl) ?_
    refine xe_k ?_
    refine xe_sub [true, true] (lv' := [(0, .ref 59), (1, .int a1)]) rfl ?_
    have hz := xh_rf_line_57_15 (l := l) (g := g) ok a_58 a_59 a_60 a_61 a_62 a_63 a_64 a_65 a_68 a_69 a_70 a_71 a_72 a_73 a_74 a_75 l_76 s_57_1 s_57_18 s_57_19 s_57_20 s_57_24 X t_lines t_numbers ((0 : Int32)) a1 ((1 : Int32)) _ h
    exact hz
  · refine xe_neg hc970 (xe_k ?_)
    refine xe_seg ok 1 (G := (fun K => K (63, xm_i63, xm_I63, 0, 0, 15, [(0, .ref 59), (1, .int a1)], [.int ((0 : Int32)), .ref 59], xw_R X ((0 : Int32)) s_57_1 s_57_18 s_57_19 s_57_20 s_57_24 a_58 a_59 a_60 a_61 a_62 a_63 a_64 a_65 t_lines t_numbers a_68 a_69 a_70 a_71 a_72 a_73 a_74 a_75 l_76))) (fun K => rfl) ?_
    refine xe_k ?_
    refine xe_sub [true, true] (lv' := [(0, .ref 59), (1, .int a1)]) rfl ?_
    have hz := xh_rf_line_57_15 (l := l) (g := g) ok a_58 a_59 a_60 a_61 a_62 a_63 a_64 a_65 a_68 a_69 a_70 a_71 a_72 a_73 a_74 a_75 l_76 s_57_1 s_57_18 s_57_19 s_57_20 s_57_24 X t_lines t_numbers ((0 : Int32)) a1 ((0 : Int32)) _ h
    exact hz
set_option maxHeartbeats 400000 in
theorem xh_rf_references_57_34 {l : Launch} {g : xr_G} (ok : xr_OK xm_P) (a_58 a_59 a_60 a_61 a_62 a_63 a_64 a_65 a_66 a_67 a_68 a_69 a_70 a_73 a_74 a_75 : Nat → Int32) (l_76 : Nat → Int64) (s_57_0 s_57_1 s_57_18 s_57_19 s_57_20 s_57_24 : Int32) (X : Nat → xr_C) (t_sorts : (Nat → Int32)) (t_values : (Nat → Int32)) : ∀ (s0 : Int32) (r : (Int32)), xf_rf_references_34 t_sorts t_values s0 = some r → xV xm_P l g (65, xm_i65, xm_I65, 0, 0, 34, [], [.int s0], xw_R X s_57_0 s_57_1 s_57_18 s_57_19 s_57_20 s_57_24 a_58 a_59 a_60 a_61 a_62 a_63 a_64 a_65 a_66 a_67 a_68 a_69 a_70 t_sorts t_values a_73 a_74 a_75 l_76) (.inl (some (.int r)), xw_R X s_57_0 s_57_1 s_57_18 s_57_19 s_57_20 s_57_24 a_58 a_59 a_60 a_61 a_62 a_63 a_64 a_65 a_66 a_67 a_68 a_69 a_70 t_sorts t_values a_73 a_74 a_75 l_76) := by
  intro s0 r h
  unfold xf_rf_references_34 at h
  obtain rfl := Option.some.inj h
  refine xe_seg ok 1 (G := (fun _ => some (.inl (some (.int s0)), xw_R X s_57_0 s_57_1 s_57_18 s_57_19 s_57_20 s_57_24 a_58 a_59 a_60 a_61 a_62 a_63 a_64 a_65 a_66 a_67 a_68 a_69 a_70 t_sorts t_values a_73 a_74 a_75 l_76))) (fun K => rfl) ?_
  exact xe_ret
set_option maxHeartbeats 400000 in
theorem xh_rf_references_57 {l : Launch} {g : xr_G} (ok : xr_OK xm_P) (a_58 a_59 a_60 a_61 a_62 a_63 a_64 a_65 a_66 a_67 a_68 a_69 a_70 a_73 a_74 a_75 : Nat → Int32) (l_76 : Nat → Int64) (s_57_0 s_57_1 s_57_18 s_57_19 s_57_20 s_57_24 : Int32) (X : Nat → xr_C) (t_sorts : (Nat → Int32)) (t_values : (Nat → Int32)) : ∀ (a1 : Int32) (r : (Int32)), xf_rf_references t_sorts t_values a1 = some r → xV xm_P l g (65, xm_i65, xm_I65, 0, 0, 0, [(0, .ref 59), (1, .int a1)], [], xw_R X s_57_0 s_57_1 s_57_18 s_57_19 s_57_20 s_57_24 a_58 a_59 a_60 a_61 a_62 a_63 a_64 a_65 a_66 a_67 a_68 a_69 a_70 t_sorts t_values a_73 a_74 a_75 l_76) (.inl (some (.int r)), xw_R X s_57_0 s_57_1 s_57_18 s_57_19 s_57_20 s_57_24 a_58 a_59 a_60 a_61 a_62 a_63 a_64 a_65 a_66 a_67 a_68 a_69 a_70 t_sorts t_values a_73 a_74 a_75 l_76) := by
  intro a1 r h
  unfold xf_rf_references at h
  refine xe_seg ok 4 (G := (fun K => if xr_in a1 960 = true then K (65, xm_i65, xm_I65, 0, 0, 6, [(0, .ref 59), (1, .int a1)], [.int (t_sorts a1.toNatClampNeg)], xw_R X s_57_0 s_57_1 s_57_18 s_57_19 s_57_20 s_57_24 a_58 a_59 a_60 a_61 a_62 a_63 a_64 a_65 a_66 a_67 a_68 a_69 a_70 t_sorts t_values a_73 a_74 a_75 l_76) else none)) (fun K => rfl) ?_
  obtain ⟨hg983, h⟩ := xn_if h
  refine xe_pos hg983 (xe_k ?_)
  refine xe_seg ok 2 (G := (fun K => if (t_sorts a1.toNatClampNeg) = ((2 : Int32)) then K (65, xm_i65, xm_I65, 0, 0, 10, [(0, .ref 59), (1, .int a1)], [], xw_R X s_57_0 s_57_1 s_57_18 s_57_19 s_57_20 s_57_24 a_58 a_59 a_60 a_61 a_62 a_63 a_64 a_65 a_66 a_67 a_68 a_69 a_70 t_sorts t_values a_73 a_74 a_75 l_76) else K (65, xm_i65, xm_I65, 0, 0, 14, [(0, .ref 59), (1, .int a1)], [], xw_R X s_57_0 s_57_1 s_57_18 s_57_19 s_57_20 s_57_24 a_58 a_59 a_60 a_61 a_62 a_63 a_64 a_65 a_66 a_67 a_68 a_69 a_70 t_sorts t_values a_73 a_74 a_75 l_76))) (fun K => rfl) ?_
  rcases xb_if h with ⟨hc984, h⟩ | ⟨hc984, h⟩
  · refine xe_pos hc984 (xe_k ?_)
    refine xe_seg ok 2 (G := (fun K => K (65, xm_i65, xm_I65, 0, 0, 34, [(0, .ref 59), (1, .int a1)], [.int ((1 : Int32))], xw_R X s_57_0 s_57_1 s_57_18 s_57_19 s_57_20 s_57_24 a_58 a_59 a_60 a_61 a_62 a_63 a_64 a_65 a_66 a_67 a_68 a_69 a_70 t_sorts t_values a_73 a_74 a_75 l_76))) (fun K => rfl) ?_
    refine xe_k ?_
    refine xe_sub [false, false] (lv' := []) rfl ?_
    have hz := xh_rf_references_57_34 (l := l) (g := g) ok a_58 a_59 a_60 a_61 a_62 a_63 a_64 a_65 a_66 a_67 a_68 a_69 a_70 a_73 a_74 a_75 l_76 s_57_0 s_57_1 s_57_18 s_57_19 s_57_20 s_57_24 X t_sorts t_values ((1 : Int32)) _ h
    exact hz
  · refine xe_neg hc984 (xe_k ?_)
    refine xe_seg ok 4 (G := (fun K => if xr_in a1 960 = true then K (65, xm_i65, xm_I65, 0, 0, 20, [(0, .ref 59), (1, .int a1)], [.int (t_sorts a1.toNatClampNeg)], xw_R X s_57_0 s_57_1 s_57_18 s_57_19 s_57_20 s_57_24 a_58 a_59 a_60 a_61 a_62 a_63 a_64 a_65 a_66 a_67 a_68 a_69 a_70 t_sorts t_values a_73 a_74 a_75 l_76) else none)) (fun K => rfl) ?_
    obtain ⟨hg985, h⟩ := xn_if h
    refine xe_pos hg985 (xe_k ?_)
    refine xe_seg ok 2 (G := (fun K => if (t_sorts a1.toNatClampNeg) = ((4 : Int32)) then K (65, xm_i65, xm_I65, 0, 0, 24, [(0, .ref 59), (1, .int a1)], [], xw_R X s_57_0 s_57_1 s_57_18 s_57_19 s_57_20 s_57_24 a_58 a_59 a_60 a_61 a_62 a_63 a_64 a_65 a_66 a_67 a_68 a_69 a_70 t_sorts t_values a_73 a_74 a_75 l_76) else K (65, xm_i65, xm_I65, 0, 0, 33, [(0, .ref 59), (1, .int a1)], [], xw_R X s_57_0 s_57_1 s_57_18 s_57_19 s_57_20 s_57_24 a_58 a_59 a_60 a_61 a_62 a_63 a_64 a_65 a_66 a_67 a_68 a_69 a_70 t_sorts t_values a_73 a_74 a_75 l_76))) (fun K => rfl) ?_
    rcases xb_if h with ⟨hc986, h⟩ | ⟨hc986, h⟩
    · refine xe_pos hc986 (xe_k ?_)
      refine xe_seg ok 4 (G := (fun K => if xr_in a1 960 = true then K (65, xm_i65, xm_I65, 0, 0, 30, [(0, .ref 59), (1, .int a1)], [.int (t_values a1.toNatClampNeg)], xw_R X s_57_0 s_57_1 s_57_18 s_57_19 s_57_20 s_57_24 a_58 a_59 a_60 a_61 a_62 a_63 a_64 a_65 a_66 a_67 a_68 a_69 a_70 t_sorts t_values a_73 a_74 a_75 l_76) else none)) (fun K => rfl) ?_
      obtain ⟨hg987, h⟩ := xn_if h
      refine xe_pos hg987 (xe_k ?_)
      refine xe_seg ok 1 (G := (fun K => K (65, xm_i65, xm_I65, 0, 0, 34, [(0, .ref 59), (1, .int a1)], [.int (t_values a1.toNatClampNeg)], xw_R X s_57_0 s_57_1 s_57_18 s_57_19 s_57_20 s_57_24 a_58 a_59 a_60 a_61 a_62 a_63 a_64 a_65 a_66 a_67 a_68 a_69 a_70 t_sorts t_values a_73 a_74 a_75 l_76))) (fun K => rfl) ?_
      refine xe_k ?_
      refine xe_sub [false, false] (lv' := []) rfl ?_
      have hz := xh_rf_references_57_34 (l := l) (g := g) ok a_58 a_59 a_60 a_61 a_62 a_63 a_64 a_65 a_66 a_67 a_68 a_69 a_70 a_73 a_74 a_75 l_76 s_57_0 s_57_1 s_57_18 s_57_19 s_57_20 s_57_24 X t_sorts t_values (t_values a1.toNatClampNeg) _ h
      exact hz
    · refine xe_neg hc986 (xe_k ?_)
      refine xe_seg ok 1 (G := (fun K => K (65, xm_i65, xm_I65, 0, 0, 34, [(0, .ref 59), (1, .int a1)], [.int ((0 : Int32))], xw_R X s_57_0 s_57_1 s_57_18 s_57_19 s_57_20 s_57_24 a_58 a_59 a_60 a_61 a_62 a_63 a_64 a_65 a_66 a_67 a_68 a_69 a_70 t_sorts t_values a_73 a_74 a_75 l_76))) (fun K => rfl) ?_
      refine xe_k ?_
      refine xe_sub [false, false] (lv' := []) rfl ?_
      have hz := xh_rf_references_57_34 (l := l) (g := g) ok a_58 a_59 a_60 a_61 a_62 a_63 a_64 a_65 a_66 a_67 a_68 a_69 a_70 a_73 a_74 a_75 l_76 s_57_0 s_57_1 s_57_18 s_57_19 s_57_20 s_57_24 X t_sorts t_values ((0 : Int32)) _ h
      exact hz
set_option maxHeartbeats 400000 in
theorem xh_rf_referred_57_32 {l : Launch} {g : xr_G} (ok : xr_OK xm_P) (a_58 a_59 a_60 a_61 a_62 a_63 a_64 a_65 a_68 a_69 a_70 a_74 a_75 : Nat → Int32) (l_76 : Nat → Int64) (s_57_0 s_57_1 s_57_18 s_57_19 s_57_20 s_57_24 : Int32) (X : Nat → xr_C) (t_items : (Nat → Int32)) (t_lines : (Nat → Int32)) (t_numbers : (Nat → Int32)) (t_sorts : (Nat → Int32)) (t_values : (Nat → Int32)) (n : Nat) : ∀ (s1 : Int32) (s2 : Int32) (r : (Int32)), xf_rf_referred_32 t_items t_lines t_numbers t_sorts t_values n s1 s2 = some r → xV xm_P l g (66, xm_i66, xm_I66, 0, 0, 32, [], [.int s2, .int s1, .ref 59], xw_R X s_57_0 s_57_1 s_57_18 s_57_19 s_57_20 s_57_24 a_58 a_59 a_60 a_61 a_62 a_63 a_64 a_65 t_lines t_numbers a_68 a_69 a_70 t_sorts t_values t_items a_74 a_75 l_76) (.inl (some (.int r)), xw_R X s_57_0 s_57_1 s_57_18 s_57_19 s_57_20 s_57_24 a_58 a_59 a_60 a_61 a_62 a_63 a_64 a_65 t_lines t_numbers a_68 a_69 a_70 t_sorts t_values t_items a_74 a_75 l_76) := by
  intro s1 s2 r h
  unfold xf_rf_referred_32 at h
  refine xe_seg ok 1 (G := (fun K => xr_back K 66 xm_i66 xm_I66 0 0 32 [] [] 78 true (K (50, xm_i50, xm_I50, 0, 0, 0, [(0, .ref 59), (1, .int s1), (2, .int s2)], [], xw_R X s_57_0 s_57_1 s_57_18 s_57_19 s_57_20 s_57_24 a_58 a_59 a_60 a_61 a_62 a_63 a_64 a_65 t_lines t_numbers a_68 a_69 a_70 t_sorts t_values t_items a_74 a_75 l_76)))) (fun K => rfl) ?_
  obtain ⟨q994, hq994, h⟩ := Option.bind_eq_some_iff.mp h
  have heq994 := xh_rf_find_57 (l := l) (g := g) ok a_58 a_59 a_60 a_61 a_62 a_63 a_64 a_65 a_68 a_69 a_70 t_sorts t_values t_items a_74 a_75 l_76 s_57_0 s_57_1 s_57_18 s_57_19 s_57_20 s_57_24 X t_lines t_numbers n s1 s2 _ hq994
  refine xe_call1 (ws' := xw_R X s_57_0 s_57_1 s_57_18 s_57_19 s_57_20 s_57_24 a_58 a_59 a_60 a_61 a_62 a_63 a_64 a_65 t_lines t_numbers a_68 a_69 a_70 t_sorts t_values t_items a_74 a_75 l_76) (by decide) heq994 (Or.inl rfl) ?_
  obtain rfl := Option.some.inj h
  refine xe_seg ok 1 (G := (fun _ => some (.inl (some (.int q994)), xw_R X s_57_0 s_57_1 s_57_18 s_57_19 s_57_20 s_57_24 a_58 a_59 a_60 a_61 a_62 a_63 a_64 a_65 t_lines t_numbers a_68 a_69 a_70 t_sorts t_values t_items a_74 a_75 l_76))) (fun K => rfl) ?_
  exact xe_ret
set_option maxHeartbeats 400000 in
theorem xh_rf_referred_57 {l : Launch} {g : xr_G} (ok : xr_OK xm_P) (a_58 a_59 a_60 a_61 a_62 a_63 a_64 a_65 a_68 a_69 a_70 a_74 a_75 : Nat → Int32) (l_76 : Nat → Int64) (s_57_0 s_57_1 s_57_18 s_57_19 s_57_20 s_57_24 : Int32) (X : Nat → xr_C) (t_items : (Nat → Int32)) (t_lines : (Nat → Int32)) (t_numbers : (Nat → Int32)) (t_sorts : (Nat → Int32)) (t_values : (Nat → Int32)) (n : Nat) : ∀ (a1 : Int32) (a2 : Int32) (r : (Int32)), xf_rf_referred t_items t_lines t_numbers t_sorts t_values n a1 a2 = some r → xV xm_P l g (66, xm_i66, xm_I66, 0, 0, 0, [(0, .ref 59), (1, .int a1), (2, .int a2)], [], xw_R X s_57_0 s_57_1 s_57_18 s_57_19 s_57_20 s_57_24 a_58 a_59 a_60 a_61 a_62 a_63 a_64 a_65 t_lines t_numbers a_68 a_69 a_70 t_sorts t_values t_items a_74 a_75 l_76) (.inl (some (.int r)), xw_R X s_57_0 s_57_1 s_57_18 s_57_19 s_57_20 s_57_24 a_58 a_59 a_60 a_61 a_62 a_63 a_64 a_65 t_lines t_numbers a_68 a_69 a_70 t_sorts t_values t_items a_74 a_75 l_76) := by
  intro a1 a2 r h
  unfold xf_rf_referred at h
  refine xe_seg ok 6 (G := (fun K => if xr_in a1 960 = true then K (66, xm_i66, xm_I66, 0, 0, 8, [(0, .ref 59), (1, .int a1), (2, .int a2)], [.int (t_sorts a1.toNatClampNeg), .int ((0 : Int32)), .ref 59], xw_R X s_57_0 s_57_1 s_57_18 s_57_19 s_57_20 s_57_24 a_58 a_59 a_60 a_61 a_62 a_63 a_64 a_65 t_lines t_numbers a_68 a_69 a_70 t_sorts t_values t_items a_74 a_75 l_76) else none)) (fun K => rfl) ?_
  obtain ⟨hg991, h⟩ := xn_if h
  refine xe_pos hg991 (xe_k ?_)
  refine xe_seg ok 2 (G := (fun K => if (t_sorts a1.toNatClampNeg) = ((2 : Int32)) then K (66, xm_i66, xm_I66, 0, 0, 12, [(0, .ref 59), (1, .int a1), (2, .int a2)], [.int ((0 : Int32)), .ref 59], xw_R X s_57_0 s_57_1 s_57_18 s_57_19 s_57_20 s_57_24 a_58 a_59 a_60 a_61 a_62 a_63 a_64 a_65 t_lines t_numbers a_68 a_69 a_70 t_sorts t_values t_items a_74 a_75 l_76) else K (66, xm_i66, xm_I66, 0, 0, 21, [(0, .ref 59), (1, .int a1), (2, .int a2)], [.int ((0 : Int32)), .ref 59], xw_R X s_57_0 s_57_1 s_57_18 s_57_19 s_57_20 s_57_24 a_58 a_59 a_60 a_61 a_62 a_63 a_64 a_65 t_lines t_numbers a_68 a_69 a_70 t_sorts t_values t_items a_74 a_75 l_76))) (fun K => rfl) ?_
  rcases xb_if h with ⟨hc992, h⟩ | ⟨hc992, h⟩
  · refine xe_pos hc992 (xe_k ?_)
    refine xe_seg ok 4 (G := (fun K => if xr_in a1 960 = true then K (66, xm_i66, xm_I66, 0, 0, 18, [(0, .ref 59), (1, .int a1), (2, .int a2)], [.int (t_values a1.toNatClampNeg), .int ((0 : Int32)), .ref 59], xw_R X s_57_0 s_57_1 s_57_18 s_57_19 s_57_20 s_57_24 a_58 a_59 a_60 a_61 a_62 a_63 a_64 a_65 t_lines t_numbers a_68 a_69 a_70 t_sorts t_values t_items a_74 a_75 l_76) else none)) (fun K => rfl) ?_
    obtain ⟨hg993, h⟩ := xn_if h
    refine xe_pos hg993 (xe_k ?_)
    refine xe_seg ok 1 (G := (fun K => K (66, xm_i66, xm_I66, 0, 0, 32, [(0, .ref 59), (1, .int a1), (2, .int a2)], [.int (t_values a1.toNatClampNeg), .int ((0 : Int32)), .ref 59], xw_R X s_57_0 s_57_1 s_57_18 s_57_19 s_57_20 s_57_24 a_58 a_59 a_60 a_61 a_62 a_63 a_64 a_65 t_lines t_numbers a_68 a_69 a_70 t_sorts t_values t_items a_74 a_75 l_76))) (fun K => rfl) ?_
    refine xe_k ?_
    refine xe_sub [false, false, false] (lv' := []) rfl ?_
    have hz := xh_rf_referred_57_32 (l := l) (g := g) ok a_58 a_59 a_60 a_61 a_62 a_63 a_64 a_65 a_68 a_69 a_70 a_74 a_75 l_76 s_57_0 s_57_1 s_57_18 s_57_19 s_57_20 s_57_24 X t_items t_lines t_numbers t_sorts t_values n ((0 : Int32)) (t_values a1.toNatClampNeg) _ h
    exact hz
  · refine xe_neg hc992 (xe_k ?_)
    refine xe_seg ok 8 (G := (fun K => if xr_in ((((20 : Int32)) * a1) + a2) 19200 = true then K (66, xm_i66, xm_I66, 0, 0, 32, [(0, .ref 59), (1, .int a1), (2, .int a2)], [.int (t_items ((((20 : Int32)) * a1) + a2).toNatClampNeg), .int ((0 : Int32)), .ref 59], xw_R X s_57_0 s_57_1 s_57_18 s_57_19 s_57_20 s_57_24 a_58 a_59 a_60 a_61 a_62 a_63 a_64 a_65 t_lines t_numbers a_68 a_69 a_70 t_sorts t_values t_items a_74 a_75 l_76) else none)) (fun K => rfl) ?_
    obtain ⟨hg995, h⟩ := xn_if h
    refine xe_pos hg995 (xe_k ?_)
    refine xe_sub [false, false, false] (lv' := []) rfl ?_
    have hz := xh_rf_referred_57_32 (l := l) (g := g) ok a_58 a_59 a_60 a_61 a_62 a_63 a_64 a_65 a_68 a_69 a_70 a_74 a_75 l_76 s_57_0 s_57_1 s_57_18 s_57_19 s_57_20 s_57_24 X t_items t_lines t_numbers t_sorts t_values n ((0 : Int32)) (t_items ((((20 : Int32)) * a1) + a2).toNatClampNeg) _ h
    exact hz
set_option maxHeartbeats 400000 in
theorem xh_rf_findWays_57_41 {l : Launch} {g : xr_G} (ok : xr_OK xm_P) (a_58 a_59 a_60 a_61 a_62 a_63 a_64 a_65 a_68 a_69 a_74 a_75 : Nat → Int32) (s_57_0 s_57_1 s_57_18 s_57_19 s_57_20 s_57_24 : Int32) (X : Nat → xr_C) (t_items : (Nat → Int32)) (t_lines : (Nat → Int32)) (t_numbers : (Nat → Int32)) (t_parts : (Nat → Int32)) (t_sorts : (Nat → Int32)) (t_values : (Nat → Int32)) {k2 : (Nat → Int64) → Int32 → Option (Unit × (Nat → Int64))} (hk2 : ∀ (t_ways : (Nat → Int64)) (v1 : Int32) (r : (Unit × (Nat → Int64))), k2 t_ways v1 = some r → xV xm_P l g (68, xm_i68, xm_I68, 0, 0, 2, [(0, .ref 59), (1, .int v1)], [], xw_R X s_57_0 s_57_1 s_57_18 s_57_19 s_57_20 s_57_24 a_58 a_59 a_60 a_61 a_62 a_63 a_64 a_65 t_lines t_numbers a_68 a_69 t_parts t_sorts t_values t_items a_74 a_75 t_ways) (.inl none, xw_R X s_57_0 s_57_1 s_57_18 s_57_19 s_57_20 s_57_24 a_58 a_59 a_60 a_61 a_62 a_63 a_64 a_65 t_lines t_numbers a_68 a_69 t_parts t_sorts t_values t_items a_74 a_75 r.2)) {k24 : (Nat → Int64) → Int32 → Int32 → Option (Unit × (Nat → Int64))} (hk24 : ∀ (t_ways : (Nat → Int64)) (v1 : Int32) (v2 : Int32) (r : (Unit × (Nat → Int64))), k24 t_ways v1 v2 = some r → xV xm_P l g (68, xm_i68, xm_I68, 0, 0, 24, [(0, .ref 59), (1, .int v1), (2, .int v2)], [], xw_R X s_57_0 s_57_1 s_57_18 s_57_19 s_57_20 s_57_24 a_58 a_59 a_60 a_61 a_62 a_63 a_64 a_65 t_lines t_numbers a_68 a_69 t_parts t_sorts t_values t_items a_74 a_75 t_ways) (.inl none, xw_R X s_57_0 s_57_1 s_57_18 s_57_19 s_57_20 s_57_24 a_58 a_59 a_60 a_61 a_62 a_63 a_64 a_65 t_lines t_numbers a_68 a_69 t_parts t_sorts t_values t_items a_74 a_75 r.2)) (n : Nat) : ∀ (N : Nat) (t_ways : (Nat → Int64)) (v1 : Int32) (v2 : Int32) (v3 : Int32) (r : (Unit × (Nat → Int64))), xf_rf_findWays_41 t_items t_lines t_numbers t_parts t_sorts t_values k2 k24 n N t_ways v1 v2 v3 = some r → xV xm_P l g (68, xm_i68, xm_I68, 0, 0, 41, [(0, .ref 59), (1, .int v1), (2, .int v2), (3, .int v3)], [], xw_R X s_57_0 s_57_1 s_57_18 s_57_19 s_57_20 s_57_24 a_58 a_59 a_60 a_61 a_62 a_63 a_64 a_65 t_lines t_numbers a_68 a_69 t_parts t_sorts t_values t_items a_74 a_75 t_ways) (.inl none, xw_R X s_57_0 s_57_1 s_57_18 s_57_19 s_57_20 s_57_24 a_58 a_59 a_60 a_61 a_62 a_63 a_64 a_65 t_lines t_numbers a_68 a_69 t_parts t_sorts t_values t_items a_74 a_75 r.2) := by
  intro N
  induction N with
  | zero => intro t_ways v1 v2 v3 r h; cases h
  | succ N hk41 =>
    intro t_ways v1 v2 v3 r h
    refine xe_seg ok 4 (G := (fun K => xr_back K 68 xm_i68 xm_I68 0 0 44 [(0, .ref 59), (1, .int v1), (2, .int v2), (3, .int v3)] [.int v3] 78 true (K (65, xm_i65, xm_I65, 0, 0, 0, [(0, .ref 59), (1, .int v2)], [], xw_R X s_57_0 s_57_1 s_57_18 s_57_19 s_57_20 s_57_24 a_58 a_59 a_60 a_61 a_62 a_63 a_64 a_65 t_lines t_numbers a_68 a_69 t_parts t_sorts t_values t_items a_74 a_75 t_ways)))) (fun K => rfl) ?_
    obtain ⟨q988, hq988, h⟩ := Option.bind_eq_some_iff.mp h
    have heq988 := xh_rf_references_57 (l := l) (g := g) ok a_58 a_59 a_60 a_61 a_62 a_63 a_64 a_65 t_lines t_numbers a_68 a_69 t_parts t_items a_74 a_75 t_ways s_57_0 s_57_1 s_57_18 s_57_19 s_57_20 s_57_24 X t_sorts t_values v2 _ hq988
    refine xe_call1 (ws' := xw_R X s_57_0 s_57_1 s_57_18 s_57_19 s_57_20 s_57_24 a_58 a_59 a_60 a_61 a_62 a_63 a_64 a_65 t_lines t_numbers a_68 a_69 t_parts t_sorts t_values t_items a_74 a_75 t_ways) (by decide) heq988 (Or.inl rfl) ?_
    refine xe_seg ok 1 (G := (fun K => if v3 < q988 then K (68, xm_i68, xm_I68, 0, 0, 50, [(0, .ref 59), (1, .int v1), (2, .int v2), (3, .int v3)], [], xw_R X s_57_0 s_57_1 s_57_18 s_57_19 s_57_20 s_57_24 a_58 a_59 a_60 a_61 a_62 a_63 a_64 a_65 t_lines t_numbers a_68 a_69 t_parts t_sorts t_values t_items a_74 a_75 t_ways) else K (68, xm_i68, xm_I68, 0, 0, 73, [(0, .ref 59), (1, .int v1), (2, .int v2), (3, .int v3)], [], xw_R X s_57_0 s_57_1 s_57_18 s_57_19 s_57_20 s_57_24 a_58 a_59 a_60 a_61 a_62 a_63 a_64 a_65 t_lines t_numbers a_68 a_69 t_parts t_sorts t_values t_items a_74 a_75 t_ways))) (fun K => rfl) ?_
    rcases xb_if h with ⟨hc989, h⟩ | ⟨hc989, h⟩
    · refine xe_pos hc989 (xe_k ?_)
      refine xe_seg ok 5 (G := (fun K => if xr_in v1 40 = true then K (68, xm_i68, xm_I68, 0, 0, 57, [(0, .ref 59), (1, .int v1), (2, .int v2), (3, .int v3)], [.long (t_ways v1.toNatClampNeg), .int v1, .ref 78], xw_R X s_57_0 s_57_1 s_57_18 s_57_19 s_57_20 s_57_24 a_58 a_59 a_60 a_61 a_62 a_63 a_64 a_65 t_lines t_numbers a_68 a_69 t_parts t_sorts t_values t_items a_74 a_75 t_ways) else none)) (fun K => rfl) ?_
      obtain ⟨hg990, h⟩ := xn_if h
      refine xe_pos hg990 (xe_k ?_)
      refine xe_seg ok 5 (G := (fun K => xr_back K 68 xm_i68 xm_I68 0 0 61 [(0, .ref 59), (1, .int v1), (2, .int v2), (3, .int v3)] [.long ((1 : Int64)), .long (t_ways v1.toNatClampNeg), .int v1, .ref 78] 78 true (K (66, xm_i66, xm_I66, 0, 0, 0, [(0, .ref 59), (1, .int v2), (2, .int v3)], [], xw_R X s_57_0 s_57_1 s_57_18 s_57_19 s_57_20 s_57_24 a_58 a_59 a_60 a_61 a_62 a_63 a_64 a_65 t_lines t_numbers a_68 a_69 t_parts t_sorts t_values t_items a_74 a_75 t_ways)))) (fun K => rfl) ?_
      obtain ⟨q996, hq996, h⟩ := Option.bind_eq_some_iff.mp h
      have heq996 := xh_rf_referred_57 (l := l) (g := g) ok a_58 a_59 a_60 a_61 a_62 a_63 a_64 a_65 a_68 a_69 t_parts a_74 a_75 t_ways s_57_0 s_57_1 s_57_18 s_57_19 s_57_20 s_57_24 X t_items t_lines t_numbers t_sorts t_values n v2 v3 _ hq996
      refine xe_call1 (ws' := xw_R X s_57_0 s_57_1 s_57_18 s_57_19 s_57_20 s_57_24 a_58 a_59 a_60 a_61 a_62 a_63 a_64 a_65 t_lines t_numbers a_68 a_69 t_parts t_sorts t_values t_items a_74 a_75 t_ways) (by decide) heq996 (Or.inl rfl) ?_
      refine xe_seg ok 3 (G := (fun K => if xr_in v1 40 = true then K (68, xm_i68, xm_I68, 0, 0, 67, [(0, .ref 59), (1, .int v1), (2, .int v2), (3, .int v3)], [], xw_R X s_57_0 s_57_1 s_57_18 s_57_19 s_57_20 s_57_24 a_58 a_59 a_60 a_61 a_62 a_63 a_64 a_65 t_lines t_numbers a_68 a_69 t_parts t_sorts t_values t_items a_74 a_75 (vp_updL t_ways v1.toNatClampNeg (((t_ways v1.toNatClampNeg) ||| (xe_shl ((1 : Int64)) q996))))) else none)) (fun K => rfl) ?_
      obtain ⟨hg997, h⟩ := xn_if h
      refine xe_pos hg997 (xe_k ?_)
      refine xe_seg ok 2 (G := (fun K => K (68, xm_i68, xm_I68, 0, 0, 41, [(0, .ref 59), (1, .int v1), (2, .int v2), (3, .int (v3 + (1 : Int32)))], [], xw_R X s_57_0 s_57_1 s_57_18 s_57_19 s_57_20 s_57_24 a_58 a_59 a_60 a_61 a_62 a_63 a_64 a_65 t_lines t_numbers a_68 a_69 t_parts t_sorts t_values t_items a_74 a_75 (vp_updL t_ways v1.toNatClampNeg (((t_ways v1.toNatClampNeg) ||| (xe_shl ((1 : Int64)) q996))))))) (fun K => rfl) ?_
      refine xe_k ?_
      refine xe_sub [true, true, true, true] (lv' := [(0, .ref 59), (1, .int v1), (2, .int v2), (3, .int (v3 + (1 : Int32)))]) rfl ?_
      have hz := hk41 (vp_updL t_ways v1.toNatClampNeg (((t_ways v1.toNatClampNeg) ||| (xe_shl ((1 : Int64)) q996)))) v1 v2 (v3 + (1 : Int32)) _ h
      exact hz
    · refine xe_neg hc989 (xe_k ?_)
      refine xe_seg ok 2 (G := (fun K => K (68, xm_i68, xm_I68, 0, 0, 24, [(0, .ref 59), (1, .int v1), (2, .int (v2 + (1 : Int32))), (3, .int v3)], [], xw_R X s_57_0 s_57_1 s_57_18 s_57_19 s_57_20 s_57_24 a_58 a_59 a_60 a_61 a_62 a_63 a_64 a_65 t_lines t_numbers a_68 a_69 t_parts t_sorts t_values t_items a_74 a_75 t_ways))) (fun K => rfl) ?_
      refine xe_k ?_
      refine xe_sub [true, true, true, false] (lv' := [(0, .ref 59), (1, .int v1), (2, .int (v2 + (1 : Int32)))]) rfl ?_
      have hz := hk24 t_ways v1 (v2 + (1 : Int32)) _ h
      exact hz
set_option maxHeartbeats 400000 in
theorem xh_rf_findWays_57_24 {l : Launch} {g : xr_G} (ok : xr_OK xm_P) (a_58 a_59 a_60 a_61 a_62 a_63 a_64 a_65 a_68 a_69 a_74 a_75 : Nat → Int32) (s_57_0 s_57_1 s_57_18 s_57_19 s_57_20 s_57_24 : Int32) (X : Nat → xr_C) (t_items : (Nat → Int32)) (t_lines : (Nat → Int32)) (t_numbers : (Nat → Int32)) (t_parts : (Nat → Int32)) (t_sorts : (Nat → Int32)) (t_values : (Nat → Int32)) {k2 : (Nat → Int64) → Int32 → Option (Unit × (Nat → Int64))} (hk2 : ∀ (t_ways : (Nat → Int64)) (v1 : Int32) (r : (Unit × (Nat → Int64))), k2 t_ways v1 = some r → xV xm_P l g (68, xm_i68, xm_I68, 0, 0, 2, [(0, .ref 59), (1, .int v1)], [], xw_R X s_57_0 s_57_1 s_57_18 s_57_19 s_57_20 s_57_24 a_58 a_59 a_60 a_61 a_62 a_63 a_64 a_65 t_lines t_numbers a_68 a_69 t_parts t_sorts t_values t_items a_74 a_75 t_ways) (.inl none, xw_R X s_57_0 s_57_1 s_57_18 s_57_19 s_57_20 s_57_24 a_58 a_59 a_60 a_61 a_62 a_63 a_64 a_65 t_lines t_numbers a_68 a_69 t_parts t_sorts t_values t_items a_74 a_75 r.2)) (n : Nat) : ∀ (N : Nat) (t_ways : (Nat → Int64)) (v1 : Int32) (v2 : Int32) (r : (Unit × (Nat → Int64))), xf_rf_findWays_24 t_items t_lines t_numbers t_parts t_sorts t_values k2 n N t_ways v1 v2 = some r → xV xm_P l g (68, xm_i68, xm_I68, 0, 0, 24, [(0, .ref 59), (1, .int v1), (2, .int v2)], [], xw_R X s_57_0 s_57_1 s_57_18 s_57_19 s_57_20 s_57_24 a_58 a_59 a_60 a_61 a_62 a_63 a_64 a_65 t_lines t_numbers a_68 a_69 t_parts t_sorts t_values t_items a_74 a_75 t_ways) (.inl none, xw_R X s_57_0 s_57_1 s_57_18 s_57_19 s_57_20 s_57_24 a_58 a_59 a_60 a_61 a_62 a_63 a_64 a_65 t_lines t_numbers a_68 a_69 t_parts t_sorts t_values t_items a_74 a_75 r.2) := by
  intro N
  induction N with
  | zero => intro t_ways v1 v2 r h; cases h
  | succ N hk24 =>
    intro t_ways v1 v2 r h
    refine xe_seg ok 8 (G := (fun K => if xr_in v1 120 = true then K (68, xm_i68, xm_I68, 0, 0, 35, [(0, .ref 59), (1, .int v1), (2, .int v2)], [.int (t_parts v1.toNatClampNeg), .int (((8 : Int32)) * v1), .int v2], xw_R X s_57_0 s_57_1 s_57_18 s_57_19 s_57_20 s_57_24 a_58 a_59 a_60 a_61 a_62 a_63 a_64 a_65 t_lines t_numbers a_68 a_69 t_parts t_sorts t_values t_items a_74 a_75 t_ways) else none)) (fun K => rfl) ?_
    obtain ⟨hg981, h⟩ := xn_if h
    refine xe_pos hg981 (xe_k ?_)
    refine xe_seg ok 2 (G := (fun K => if v2 < ((((8 : Int32)) * v1) + (t_parts v1.toNatClampNeg)) then K (68, xm_i68, xm_I68, 0, 0, 39, [(0, .ref 59), (1, .int v1), (2, .int v2)], [], xw_R X s_57_0 s_57_1 s_57_18 s_57_19 s_57_20 s_57_24 a_58 a_59 a_60 a_61 a_62 a_63 a_64 a_65 t_lines t_numbers a_68 a_69 t_parts t_sorts t_values t_items a_74 a_75 t_ways) else K (68, xm_i68, xm_I68, 0, 0, 79, [(0, .ref 59), (1, .int v1), (2, .int v2)], [], xw_R X s_57_0 s_57_1 s_57_18 s_57_19 s_57_20 s_57_24 a_58 a_59 a_60 a_61 a_62 a_63 a_64 a_65 t_lines t_numbers a_68 a_69 t_parts t_sorts t_values t_items a_74 a_75 t_ways))) (fun K => rfl) ?_
    rcases xb_if h with ⟨hc982, h⟩ | ⟨hc982, h⟩
    · refine xe_pos hc982 (xe_k ?_)
      refine xe_seg ok 2 (G := (fun K => K (68, xm_i68, xm_I68, 0, 0, 41, [(0, .ref 59), (1, .int v1), (2, .int v2), (3, .int ((0 : Int32)))], [], xw_R X s_57_0 s_57_1 s_57_18 s_57_19 s_57_20 s_57_24 a_58 a_59 a_60 a_61 a_62 a_63 a_64 a_65 t_lines t_numbers a_68 a_69 t_parts t_sorts t_values t_items a_74 a_75 t_ways))) (fun K => rfl) ?_
      refine xe_k ?_
      refine xe_sub [true, true, true, true] (lv' := [(0, .ref 59), (1, .int v1), (2, .int v2), (3, .int ((0 : Int32)))]) rfl ?_
      have hz := xh_rf_findWays_57_41 (l := l) (g := g) ok a_58 a_59 a_60 a_61 a_62 a_63 a_64 a_65 a_68 a_69 a_74 a_75 s_57_0 s_57_1 s_57_18 s_57_19 s_57_20 s_57_24 X t_items t_lines t_numbers t_parts t_sorts t_values hk2 hk24 n n t_ways v1 v2 ((0 : Int32)) _ h
      exact hz
    · refine xe_neg hc982 (xe_k ?_)
      refine xe_seg ok 2 (G := (fun K => K (68, xm_i68, xm_I68, 0, 0, 2, [(0, .ref 59), (1, .int (v1 + (1 : Int32))), (2, .int v2)], [], xw_R X s_57_0 s_57_1 s_57_18 s_57_19 s_57_20 s_57_24 a_58 a_59 a_60 a_61 a_62 a_63 a_64 a_65 t_lines t_numbers a_68 a_69 t_parts t_sorts t_values t_items a_74 a_75 t_ways))) (fun K => rfl) ?_
      refine xe_k ?_
      refine xe_sub [true, true, false] (lv' := [(0, .ref 59), (1, .int (v1 + (1 : Int32)))]) rfl ?_
      have hz := hk2 t_ways (v1 + (1 : Int32)) _ h
      exact hz
set_option maxHeartbeats 400000 in
theorem xh_rf_findWays_57_2 {l : Launch} {g : xr_G} (ok : xr_OK xm_P) (a_58 a_59 a_60 a_61 a_62 a_63 a_64 a_65 a_68 a_69 a_74 a_75 : Nat → Int32) (s_57_0 s_57_1 s_57_18 s_57_19 s_57_20 s_57_24 : Int32) (X : Nat → xr_C) (t_items : (Nat → Int32)) (t_lines : (Nat → Int32)) (t_numbers : (Nat → Int32)) (t_parts : (Nat → Int32)) (t_sorts : (Nat → Int32)) (t_values : (Nat → Int32)) (n : Nat) : ∀ (N : Nat) (t_ways : (Nat → Int64)) (v1 : Int32) (r : (Unit × (Nat → Int64))), xf_rf_findWays_2 t_items t_lines t_numbers t_parts t_sorts t_values n N t_ways v1 = some r → xV xm_P l g (68, xm_i68, xm_I68, 0, 0, 2, [(0, .ref 59), (1, .int v1)], [], xw_R X s_57_0 s_57_1 s_57_18 s_57_19 s_57_20 s_57_24 a_58 a_59 a_60 a_61 a_62 a_63 a_64 a_65 t_lines t_numbers a_68 a_69 t_parts t_sorts t_values t_items a_74 a_75 t_ways) (.inl none, xw_R X s_57_0 s_57_1 s_57_18 s_57_19 s_57_20 s_57_24 a_58 a_59 a_60 a_61 a_62 a_63 a_64 a_65 t_lines t_numbers a_68 a_69 t_parts t_sorts t_values t_items a_74 a_75 r.2) := by
  intro N
  induction N with
  | zero => intro t_ways v1 r h; cases h
  | succ N hk2 =>
    intro t_ways v1 r h
    refine xe_seg ok 5 (G := (fun K => if xr_in ((0 : Int32)) 3 = true then K (68, xm_i68, xm_I68, 0, 0, 9, [(0, .ref 59), (1, .int v1)], [.int (t_lines ((0 : Int32)).toNatClampNeg), .int v1], xw_R X s_57_0 s_57_1 s_57_18 s_57_19 s_57_20 s_57_24 a_58 a_59 a_60 a_61 a_62 a_63 a_64 a_65 t_lines t_numbers a_68 a_69 t_parts t_sorts t_values t_items a_74 a_75 t_ways) else none)) (fun K => rfl) ?_
    refine xe_pos (by decide) (xe_k ?_)
    refine xe_seg ok 1 (G := (fun K => if v1 < (t_lines ((0 : Int32)).toNatClampNeg) then K (68, xm_i68, xm_I68, 0, 0, 12, [(0, .ref 59), (1, .int v1)], [], xw_R X s_57_0 s_57_1 s_57_18 s_57_19 s_57_20 s_57_24 a_58 a_59 a_60 a_61 a_62 a_63 a_64 a_65 t_lines t_numbers a_68 a_69 t_parts t_sorts t_values t_items a_74 a_75 t_ways) else K (68, xm_i68, xm_I68, 0, 0, 85, [(0, .ref 59), (1, .int v1)], [], xw_R X s_57_0 s_57_1 s_57_18 s_57_19 s_57_20 s_57_24 a_58 a_59 a_60 a_61 a_62 a_63 a_64 a_65 t_lines t_numbers a_68 a_69 t_parts t_sorts t_values t_items a_74 a_75 t_ways))) (fun K => rfl) ?_
    rcases xb_if h with ⟨hc979, h⟩ | ⟨hc979, h⟩
    · refine xe_pos hc979 (xe_k ?_)
      refine xe_seg ok 5 (G := (fun K => if xr_in v1 40 = true then K (68, xm_i68, xm_I68, 0, 0, 19, [(0, .ref 59), (1, .int v1)], [], xw_R X s_57_0 s_57_1 s_57_18 s_57_19 s_57_20 s_57_24 a_58 a_59 a_60 a_61 a_62 a_63 a_64 a_65 t_lines t_numbers a_68 a_69 t_parts t_sorts t_values t_items a_74 a_75 (vp_updL t_ways v1.toNatClampNeg (((0 : Int64))))) else none)) (fun K => rfl) ?_
      obtain ⟨hg980, h⟩ := xn_if h
      refine xe_pos hg980 (xe_k ?_)
      refine xe_seg ok 4 (G := (fun K => K (68, xm_i68, xm_I68, 0, 0, 24, [(0, .ref 59), (1, .int v1), (2, .int (((8 : Int32)) * v1))], [], xw_R X s_57_0 s_57_1 s_57_18 s_57_19 s_57_20 s_57_24 a_58 a_59 a_60 a_61 a_62 a_63 a_64 a_65 t_lines t_numbers a_68 a_69 t_parts t_sorts t_values t_items a_74 a_75 (vp_updL t_ways v1.toNatClampNeg (((0 : Int64))))))) (fun K => rfl) ?_
      refine xe_k ?_
      refine xe_sub [true, true, true] (lv' := [(0, .ref 59), (1, .int v1), (2, .int (((8 : Int32)) * v1))]) rfl ?_
      have hz := xh_rf_findWays_57_24 (l := l) (g := g) ok a_58 a_59 a_60 a_61 a_62 a_63 a_64 a_65 a_68 a_69 a_74 a_75 s_57_0 s_57_1 s_57_18 s_57_19 s_57_20 s_57_24 X t_items t_lines t_numbers t_parts t_sorts t_values hk2 n n (vp_updL t_ways v1.toNatClampNeg (((0 : Int64)))) v1 (((8 : Int32)) * v1) _ h
      exact hz
    · refine xe_neg hc979 (xe_k ?_)
      obtain rfl := Option.some.inj h
      refine xe_seg ok 1 (G := (fun _ => some (.inl none, xw_R X s_57_0 s_57_1 s_57_18 s_57_19 s_57_20 s_57_24 a_58 a_59 a_60 a_61 a_62 a_63 a_64 a_65 t_lines t_numbers a_68 a_69 t_parts t_sorts t_values t_items a_74 a_75 t_ways))) (fun K => rfl) ?_
      exact xe_ret
set_option maxHeartbeats 400000 in
theorem xh_rf_findWays_57 {l : Launch} {g : xr_G} (ok : xr_OK xm_P) (a_58 a_59 a_60 a_61 a_62 a_63 a_64 a_65 a_68 a_69 a_74 a_75 : Nat → Int32) (s_57_0 s_57_1 s_57_18 s_57_19 s_57_20 s_57_24 : Int32) (X : Nat → xr_C) (t_items : (Nat → Int32)) (t_lines : (Nat → Int32)) (t_numbers : (Nat → Int32)) (t_parts : (Nat → Int32)) (t_sorts : (Nat → Int32)) (t_values : (Nat → Int32)) (n : Nat) : ∀ (t_ways : (Nat → Int64)) (r : (Unit × (Nat → Int64))), xf_rf_findWays t_items t_lines t_numbers t_parts t_sorts t_values n t_ways = some r → xV xm_P l g (68, xm_i68, xm_I68, 0, 0, 0, [(0, .ref 59)], [], xw_R X s_57_0 s_57_1 s_57_18 s_57_19 s_57_20 s_57_24 a_58 a_59 a_60 a_61 a_62 a_63 a_64 a_65 t_lines t_numbers a_68 a_69 t_parts t_sorts t_values t_items a_74 a_75 t_ways) (.inl none, xw_R X s_57_0 s_57_1 s_57_18 s_57_19 s_57_20 s_57_24 a_58 a_59 a_60 a_61 a_62 a_63 a_64 a_65 t_lines t_numbers a_68 a_69 t_parts t_sorts t_values t_items a_74 a_75 r.2) := by
  intro t_ways r h
  unfold xf_rf_findWays at h
  refine xe_seg ok 2 (G := (fun K => K (68, xm_i68, xm_I68, 0, 0, 2, [(0, .ref 59), (1, .int ((0 : Int32)))], [], xw_R X s_57_0 s_57_1 s_57_18 s_57_19 s_57_20 s_57_24 a_58 a_59 a_60 a_61 a_62 a_63 a_64 a_65 t_lines t_numbers a_68 a_69 t_parts t_sorts t_values t_items a_74 a_75 t_ways))) (fun K => rfl) ?_
  refine xe_k ?_
  refine xe_sub [true, true] (lv' := [(0, .ref 59), (1, .int ((0 : Int32)))]) rfl ?_
  have hz := xh_rf_findWays_57_2 (l := l) (g := g) ok a_58 a_59 a_60 a_61 a_62 a_63 a_64 a_65 a_68 a_69 a_74 a_75 s_57_0 s_57_1 s_57_18 s_57_19 s_57_20 s_57_24 X t_items t_lines t_numbers t_parts t_sorts t_values n n t_ways ((0 : Int32)) _ h
  exact hz
set_option maxHeartbeats 400000 in
theorem xh_rf_findDepths_57_146 {l : Launch} {g : xr_G} (ok : xr_OK xm_P) (a_58 a_59 a_60 a_61 a_62 a_63 a_64 a_65 a_68 a_69 a_75 : Nat → Int32) (s_57_0 s_57_1 s_57_18 s_57_19 s_57_20 s_57_24 : Int32) (X : Nat → xr_C) (t_items : (Nat → Int32)) (t_lines : (Nat → Int32)) (t_numbers : (Nat → Int32)) (t_parts : (Nat → Int32)) (t_sorts : (Nat → Int32)) (t_values : (Nat → Int32)) {k27 : (Nat → Int32) → (Nat → Int64) → Int32 → Option (Unit × (Nat → Int32) × (Nat → Int64))} (hk27 : ∀ (t_depths : (Nat → Int32)) (t_ways : (Nat → Int64)) (v1 : Int32) (r : (Unit × (Nat → Int32) × (Nat → Int64))), k27 t_depths t_ways v1 = some r → xV xm_P l g (69, xm_i69, xm_I69, 0, 0, 27, [(0, .ref 59), (1, .int v1)], [], xw_R X s_57_0 s_57_1 s_57_18 s_57_19 s_57_20 s_57_24 a_58 a_59 a_60 a_61 a_62 a_63 a_64 a_65 t_lines t_numbers a_68 a_69 t_parts t_sorts t_values t_items t_depths a_75 t_ways) (.inl none, xw_R X s_57_0 s_57_1 s_57_18 s_57_19 s_57_20 s_57_24 a_58 a_59 a_60 a_61 a_62 a_63 a_64 a_65 t_lines t_numbers a_68 a_69 t_parts t_sorts t_values t_items r.2.1 a_75 r.2.2)) {k35 : (Nat → Int32) → (Nat → Int64) → Int32 → Int32 → Option (Unit × (Nat → Int32) × (Nat → Int64))} (hk35 : ∀ (t_depths : (Nat → Int32)) (t_ways : (Nat → Int64)) (v1 : Int32) (v2 : Int32) (r : (Unit × (Nat → Int32) × (Nat → Int64))), k35 t_depths t_ways v1 v2 = some r → xV xm_P l g (69, xm_i69, xm_I69, 0, 0, 35, [(0, .ref 59), (1, .int v1), (2, .int v2)], [], xw_R X s_57_0 s_57_1 s_57_18 s_57_19 s_57_20 s_57_24 a_58 a_59 a_60 a_61 a_62 a_63 a_64 a_65 t_lines t_numbers a_68 a_69 t_parts t_sorts t_values t_items t_depths a_75 t_ways) (.inl none, xw_R X s_57_0 s_57_1 s_57_18 s_57_19 s_57_20 s_57_24 a_58 a_59 a_60 a_61 a_62 a_63 a_64 a_65 t_lines t_numbers a_68 a_69 t_parts t_sorts t_values t_items r.2.1 a_75 r.2.2)) {k66 : (Nat → Int32) → (Nat → Int64) → Int32 → Int32 → Int32 → Int32 → Int32 → Option (Unit × (Nat → Int32) × (Nat → Int64))} (hk66 : ∀ (t_depths : (Nat → Int32)) (t_ways : (Nat → Int64)) (v1 : Int32) (v2 : Int32) (v3 : Int32) (v4 : Int32) (v5 : Int32) (r : (Unit × (Nat → Int32) × (Nat → Int64))), k66 t_depths t_ways v1 v2 v3 v4 v5 = some r → xV xm_P l g (69, xm_i69, xm_I69, 0, 0, 66, [(0, .ref 59), (1, .int v1), (2, .int v2), (3, .int v3), (4, .int v4), (5, .int v5)], [], xw_R X s_57_0 s_57_1 s_57_18 s_57_19 s_57_20 s_57_24 a_58 a_59 a_60 a_61 a_62 a_63 a_64 a_65 t_lines t_numbers a_68 a_69 t_parts t_sorts t_values t_items t_depths a_75 t_ways) (.inl none, xw_R X s_57_0 s_57_1 s_57_18 s_57_19 s_57_20 s_57_24 a_58 a_59 a_60 a_61 a_62 a_63 a_64 a_65 t_lines t_numbers a_68 a_69 t_parts t_sorts t_values t_items r.2.1 a_75 r.2.2)) (n : Nat) : ∀ (t_depths : (Nat → Int32)) (t_ways : (Nat → Int64)) (v1 : Int32) (v2 : Int32) (v3 : Int32) (v4 : Int32) (v5 : Int32) (r : (Unit × (Nat → Int32) × (Nat → Int64))), xf_rf_findDepths_146 t_items t_lines t_numbers t_parts t_sorts t_values k27 k35 k66 n t_depths t_ways v1 v2 v3 v4 v5 = some r → xV xm_P l g (69, xm_i69, xm_I69, 0, 0, 146, [(0, .ref 59), (1, .int v1), (2, .int v2), (3, .int v3), (4, .int v4), (5, .int v5)], [], xw_R X s_57_0 s_57_1 s_57_18 s_57_19 s_57_20 s_57_24 a_58 a_59 a_60 a_61 a_62 a_63 a_64 a_65 t_lines t_numbers a_68 a_69 t_parts t_sorts t_values t_items t_depths a_75 t_ways) (.inl none, xw_R X s_57_0 s_57_1 s_57_18 s_57_19 s_57_20 s_57_24 a_58 a_59 a_60 a_61 a_62 a_63 a_64 a_65 t_lines t_numbers a_68 a_69 t_parts t_sorts t_values t_items r.2.1 a_75 r.2.2) := by
  intro t_depths t_ways v1 v2 v3 v4 v5 r h
  unfold xf_rf_findDepths_146 at h
  refine xe_seg ok 2 (G := (fun K => K (69, xm_i69, xm_I69, 0, 0, 66, [(0, .ref 59), (1, .int v1), (2, .int v2), (3, .int v3), (4, .int v4), (5, .int (v5 + (1 : Int32)))], [], xw_R X s_57_0 s_57_1 s_57_18 s_57_19 s_57_20 s_57_24 a_58 a_59 a_60 a_61 a_62 a_63 a_64 a_65 t_lines t_numbers a_68 a_69 t_parts t_sorts t_values t_items t_depths a_75 t_ways))) (fun K => rfl) ?_
  refine xe_k ?_
  refine xe_sub [true, true, true, true, true, true] (lv' := [(0, .ref 59), (1, .int v1), (2, .int v2), (3, .int v3), (4, .int v4), (5, .int (v5 + (1 : Int32)))]) rfl ?_
  have hz := hk66 t_depths t_ways v1 v2 v3 v4 (v5 + (1 : Int32)) _ h
  exact hz
set_option maxHeartbeats 400000 in
theorem xh_rf_findDepths_57_145 {l : Launch} {g : xr_G} (ok : xr_OK xm_P) (a_58 a_59 a_60 a_61 a_62 a_63 a_64 a_65 a_68 a_69 a_75 : Nat → Int32) (s_57_0 s_57_1 s_57_18 s_57_19 s_57_20 s_57_24 : Int32) (X : Nat → xr_C) (t_items : (Nat → Int32)) (t_lines : (Nat → Int32)) (t_numbers : (Nat → Int32)) (t_parts : (Nat → Int32)) (t_sorts : (Nat → Int32)) (t_values : (Nat → Int32)) {k27 : (Nat → Int32) → (Nat → Int64) → Int32 → Option (Unit × (Nat → Int32) × (Nat → Int64))} (hk27 : ∀ (t_depths : (Nat → Int32)) (t_ways : (Nat → Int64)) (v1 : Int32) (r : (Unit × (Nat → Int32) × (Nat → Int64))), k27 t_depths t_ways v1 = some r → xV xm_P l g (69, xm_i69, xm_I69, 0, 0, 27, [(0, .ref 59), (1, .int v1)], [], xw_R X s_57_0 s_57_1 s_57_18 s_57_19 s_57_20 s_57_24 a_58 a_59 a_60 a_61 a_62 a_63 a_64 a_65 t_lines t_numbers a_68 a_69 t_parts t_sorts t_values t_items t_depths a_75 t_ways) (.inl none, xw_R X s_57_0 s_57_1 s_57_18 s_57_19 s_57_20 s_57_24 a_58 a_59 a_60 a_61 a_62 a_63 a_64 a_65 t_lines t_numbers a_68 a_69 t_parts t_sorts t_values t_items r.2.1 a_75 r.2.2)) {k35 : (Nat → Int32) → (Nat → Int64) → Int32 → Int32 → Option (Unit × (Nat → Int32) × (Nat → Int64))} (hk35 : ∀ (t_depths : (Nat → Int32)) (t_ways : (Nat → Int64)) (v1 : Int32) (v2 : Int32) (r : (Unit × (Nat → Int32) × (Nat → Int64))), k35 t_depths t_ways v1 v2 = some r → xV xm_P l g (69, xm_i69, xm_I69, 0, 0, 35, [(0, .ref 59), (1, .int v1), (2, .int v2)], [], xw_R X s_57_0 s_57_1 s_57_18 s_57_19 s_57_20 s_57_24 a_58 a_59 a_60 a_61 a_62 a_63 a_64 a_65 t_lines t_numbers a_68 a_69 t_parts t_sorts t_values t_items t_depths a_75 t_ways) (.inl none, xw_R X s_57_0 s_57_1 s_57_18 s_57_19 s_57_20 s_57_24 a_58 a_59 a_60 a_61 a_62 a_63 a_64 a_65 t_lines t_numbers a_68 a_69 t_parts t_sorts t_values t_items r.2.1 a_75 r.2.2)) {k66 : (Nat → Int32) → (Nat → Int64) → Int32 → Int32 → Int32 → Int32 → Int32 → Option (Unit × (Nat → Int32) × (Nat → Int64))} (hk66 : ∀ (t_depths : (Nat → Int32)) (t_ways : (Nat → Int64)) (v1 : Int32) (v2 : Int32) (v3 : Int32) (v4 : Int32) (v5 : Int32) (r : (Unit × (Nat → Int32) × (Nat → Int64))), k66 t_depths t_ways v1 v2 v3 v4 v5 = some r → xV xm_P l g (69, xm_i69, xm_I69, 0, 0, 66, [(0, .ref 59), (1, .int v1), (2, .int v2), (3, .int v3), (4, .int v4), (5, .int v5)], [], xw_R X s_57_0 s_57_1 s_57_18 s_57_19 s_57_20 s_57_24 a_58 a_59 a_60 a_61 a_62 a_63 a_64 a_65 t_lines t_numbers a_68 a_69 t_parts t_sorts t_values t_items t_depths a_75 t_ways) (.inl none, xw_R X s_57_0 s_57_1 s_57_18 s_57_19 s_57_20 s_57_24 a_58 a_59 a_60 a_61 a_62 a_63 a_64 a_65 t_lines t_numbers a_68 a_69 t_parts t_sorts t_values t_items r.2.1 a_75 r.2.2)) (n : Nat) : ∀ (t_depths : (Nat → Int32)) (t_ways : (Nat → Int64)) (v1 : Int32) (v2 : Int32) (v4 : Int32) (v5 : Int32) (s0 : Int32) (r : (Unit × (Nat → Int32) × (Nat → Int64))), xf_rf_findDepths_145 t_items t_lines t_numbers t_parts t_sorts t_values k27 k35 k66 n t_depths t_ways v1 v2 v4 v5 s0 = some r → xV xm_P l g (69, xm_i69, xm_I69, 0, 0, 145, [(0, .ref 59), (1, .int v1), (2, .int v2), (4, .int v4), (5, .int v5)], [.int s0], xw_R X s_57_0 s_57_1 s_57_18 s_57_19 s_57_20 s_57_24 a_58 a_59 a_60 a_61 a_62 a_63 a_64 a_65 t_lines t_numbers a_68 a_69 t_parts t_sorts t_values t_items t_depths a_75 t_ways) (.inl none, xw_R X s_57_0 s_57_1 s_57_18 s_57_19 s_57_20 s_57_24 a_58 a_59 a_60 a_61 a_62 a_63 a_64 a_65 t_lines t_numbers a_68 a_69 t_parts t_sorts t_values t_items r.2.1 a_75 r.2.2) := by
  intro t_depths t_ways v1 v2 v4 v5 s0 r h
  unfold xf_rf_findDepths_145 at h
  refine xe_seg ok 1 (G := (fun K => K (69, xm_i69, xm_I69, 0, 0, 146, [(0, .ref 59), (1, .int v1), (2, .int v2), (3, .int s0), (4, .int v4), (5, .int v5)], [], xw_R X s_57_0 s_57_1 s_57_18 s_57_19 s_57_20 s_57_24 a_58 a_59 a_60 a_61 a_62 a_63 a_64 a_65 t_lines t_numbers a_68 a_69 t_parts t_sorts t_values t_items t_depths a_75 t_ways))) (fun K => rfl) ?_
  refine xe_k ?_
  refine xe_sub [true, true, true, true, true, true] (lv' := [(0, .ref 59), (1, .int v1), (2, .int v2), (3, .int s0), (4, .int v4), (5, .int v5)]) rfl ?_
  have hz := xh_rf_findDepths_57_146 (l := l) (g := g) ok a_58 a_59 a_60 a_61 a_62 a_63 a_64 a_65 a_68 a_69 a_75 s_57_0 s_57_1 s_57_18 s_57_19 s_57_20 s_57_24 X t_items t_lines t_numbers t_parts t_sorts t_values hk27 hk35 hk66 n t_depths t_ways v1 v2 s0 v4 v5 _ h
  exact hz
set_option maxHeartbeats 400000 in
theorem xh_rf_findDepths_57_117 {l : Launch} {g : xr_G} (ok : xr_OK xm_P) (a_58 a_59 a_60 a_61 a_62 a_63 a_64 a_65 a_68 a_69 a_75 : Nat → Int32) (s_57_0 s_57_1 s_57_18 s_57_19 s_57_20 s_57_24 : Int32) (X : Nat → xr_C) (t_items : (Nat → Int32)) (t_lines : (Nat → Int32)) (t_numbers : (Nat → Int32)) (t_parts : (Nat → Int32)) (t_sorts : (Nat → Int32)) (t_values : (Nat → Int32)) {k27 : (Nat → Int32) → (Nat → Int64) → Int32 → Option (Unit × (Nat → Int32) × (Nat → Int64))} (hk27 : ∀ (t_depths : (Nat → Int32)) (t_ways : (Nat → Int64)) (v1 : Int32) (r : (Unit × (Nat → Int32) × (Nat → Int64))), k27 t_depths t_ways v1 = some r → xV xm_P l g (69, xm_i69, xm_I69, 0, 0, 27, [(0, .ref 59), (1, .int v1)], [], xw_R X s_57_0 s_57_1 s_57_18 s_57_19 s_57_20 s_57_24 a_58 a_59 a_60 a_61 a_62 a_63 a_64 a_65 t_lines t_numbers a_68 a_69 t_parts t_sorts t_values t_items t_depths a_75 t_ways) (.inl none, xw_R X s_57_0 s_57_1 s_57_18 s_57_19 s_57_20 s_57_24 a_58 a_59 a_60 a_61 a_62 a_63 a_64 a_65 t_lines t_numbers a_68 a_69 t_parts t_sorts t_values t_items r.2.1 a_75 r.2.2)) {k35 : (Nat → Int32) → (Nat → Int64) → Int32 → Int32 → Option (Unit × (Nat → Int32) × (Nat → Int64))} (hk35 : ∀ (t_depths : (Nat → Int32)) (t_ways : (Nat → Int64)) (v1 : Int32) (v2 : Int32) (r : (Unit × (Nat → Int32) × (Nat → Int64))), k35 t_depths t_ways v1 v2 = some r → xV xm_P l g (69, xm_i69, xm_I69, 0, 0, 35, [(0, .ref 59), (1, .int v1), (2, .int v2)], [], xw_R X s_57_0 s_57_1 s_57_18 s_57_19 s_57_20 s_57_24 a_58 a_59 a_60 a_61 a_62 a_63 a_64 a_65 t_lines t_numbers a_68 a_69 t_parts t_sorts t_values t_items t_depths a_75 t_ways) (.inl none, xw_R X s_57_0 s_57_1 s_57_18 s_57_19 s_57_20 s_57_24 a_58 a_59 a_60 a_61 a_62 a_63 a_64 a_65 t_lines t_numbers a_68 a_69 t_parts t_sorts t_values t_items r.2.1 a_75 r.2.2)) {k66 : (Nat → Int32) → (Nat → Int64) → Int32 → Int32 → Int32 → Int32 → Int32 → Option (Unit × (Nat → Int32) × (Nat → Int64))} (hk66 : ∀ (t_depths : (Nat → Int32)) (t_ways : (Nat → Int64)) (v1 : Int32) (v2 : Int32) (v3 : Int32) (v4 : Int32) (v5 : Int32) (r : (Unit × (Nat → Int32) × (Nat → Int64))), k66 t_depths t_ways v1 v2 v3 v4 v5 = some r → xV xm_P l g (69, xm_i69, xm_I69, 0, 0, 66, [(0, .ref 59), (1, .int v1), (2, .int v2), (3, .int v3), (4, .int v4), (5, .int v5)], [], xw_R X s_57_0 s_57_1 s_57_18 s_57_19 s_57_20 s_57_24 a_58 a_59 a_60 a_61 a_62 a_63 a_64 a_65 t_lines t_numbers a_68 a_69 t_parts t_sorts t_values t_items t_depths a_75 t_ways) (.inl none, xw_R X s_57_0 s_57_1 s_57_18 s_57_19 s_57_20 s_57_24 a_58 a_59 a_60 a_61 a_62 a_63 a_64 a_65 t_lines t_numbers a_68 a_69 t_parts t_sorts t_values t_items r.2.1 a_75 r.2.2)) (n : Nat) : ∀ (t_depths : (Nat → Int32)) (t_ways : (Nat → Int64)) (v1 : Int32) (v2 : Int32) (v3 : Int32) (v5 : Int32) (s0 : Int32) (r : (Unit × (Nat → Int32) × (Nat → Int64))), xf_rf_findDepths_117 t_items t_lines t_numbers t_parts t_sorts t_values k27 k35 k66 n t_depths t_ways v1 v2 v3 v5 s0 = some r → xV xm_P l g (69, xm_i69, xm_I69, 0, 0, 117, [(0, .ref 59), (1, .int v1), (2, .int v2), (3, .int v3), (5, .int v5)], [.int s0], xw_R X s_57_0 s_57_1 s_57_18 s_57_19 s_57_20 s_57_24 a_58 a_59 a_60 a_61 a_62 a_63 a_64 a_65 t_lines t_numbers a_68 a_69 t_parts t_sorts t_values t_items t_depths a_75 t_ways) (.inl none, xw_R X s_57_0 s_57_1 s_57_18 s_57_19 s_57_20 s_57_24 a_58 a_59 a_60 a_61 a_62 a_63 a_64 a_65 t_lines t_numbers a_68 a_69 t_parts t_sorts t_values t_items r.2.1 a_75 r.2.2) := by
  intro t_depths t_ways v1 v2 v3 v5 s0 r h
  unfold xf_rf_findDepths_117 at h
  refine xe_seg ok 5 (G := (fun K => if xr_in v5 40 = true then K (69, xm_i69, xm_I69, 0, 0, 126, [(0, .ref 59), (1, .int v1), (2, .int v2), (3, .int v3), (4, .int s0), (5, .int v5)], [.int (t_depths v5.toNatClampNeg)], xw_R X s_57_0 s_57_1 s_57_18 s_57_19 s_57_20 s_57_24 a_58 a_59 a_60 a_61 a_62 a_63 a_64 a_65 t_lines t_numbers a_68 a_69 t_parts t_sorts t_values t_items t_depths a_75 t_ways) else none)) (fun K => rfl) ?_
  obtain ⟨hg1009, h⟩ := xn_if h
  refine xe_pos hg1009 (xe_k ?_)
  refine xe_seg ok 4 (G := (fun K => if v3 < ((t_depths v5.toNatClampNeg) + ((1 : Int32))) then K (69, xm_i69, xm_I69, 0, 0, 132, [(0, .ref 59), (1, .int v1), (2, .int v2), (3, .int v3), (4, .int s0), (5, .int v5)], [], xw_R X s_57_0 s_57_1 s_57_18 s_57_19 s_57_20 s_57_24 a_58 a_59 a_60 a_61 a_62 a_63 a_64 a_65 t_lines t_numbers a_68 a_69 t_parts t_sorts t_values t_items t_depths a_75 t_ways) else K (69, xm_i69, xm_I69, 0, 0, 144, [(0, .ref 59), (1, .int v1), (2, .int v2), (3, .int v3), (4, .int s0), (5, .int v5)], [], xw_R X s_57_0 s_57_1 s_57_18 s_57_19 s_57_20 s_57_24 a_58 a_59 a_60 a_61 a_62 a_63 a_64 a_65 t_lines t_numbers a_68 a_69 t_parts t_sorts t_values t_items t_depths a_75 t_ways))) (fun K => rfl) ?_
  rcases xb_if h with ⟨hc1010, h⟩ | ⟨hc1010, h⟩
  · refine xe_pos hc1010 (xe_k ?_)
    refine xe_seg ok 4 (G := (fun K => if xr_in v5 40 = true then K (69, xm_i69, xm_I69, 0, 0, 139, [(0, .ref 59), (1, .int v1), (2, .int v2), (3, .int v3), (4, .int s0), (5, .int v5)], [.int (t_depths v5.toNatClampNeg)], xw_R X s_57_0 s_57_1 s_57_18 s_57_19 s_57_20 s_57_24 a_58 a_59 a_60 a_61 a_62 a_63 a_64 a_65 t_lines t_numbers a_68 a_69 t_parts t_sorts t_values t_items t_depths a_75 t_ways) else none)) (fun K => rfl) ?_
    obtain ⟨hg1011, h⟩ := xn_if h
    refine xe_pos hg1011 (xe_k ?_)
    refine xe_seg ok 3 (G := (fun K => K (69, xm_i69, xm_I69, 0, 0, 145, [(0, .ref 59), (1, .int v1), (2, .int v2), (3, .int v3), (4, .int s0), (5, .int v5)], [.int ((t_depths v5.toNatClampNeg) + ((1 : Int32)))], xw_R X s_57_0 s_57_1 s_57_18 s_57_19 s_57_20 s_57_24 a_58 a_59 a_60 a_61 a_62 a_63 a_64 a_65 t_lines t_numbers a_68 a_69 t_parts t_sorts t_values t_items t_depths a_75 t_ways))) (fun K => rfl) ?_
    refine xe_k ?_
    refine xe_sub [true, true, true, false, true, true] (lv' := [(0, .ref 59), (1, .int v1), (2, .int v2), (4, .int s0), (5, .int v5)]) rfl ?_
    have hz := xh_rf_findDepths_57_145 (l := l) (g := g) ok a_58 a_59 a_60 a_61 a_62 a_63 a_64 a_65 a_68 a_69 a_75 s_57_0 s_57_1 s_57_18 s_57_19 s_57_20 s_57_24 X t_items t_lines t_numbers t_parts t_sorts t_values hk27 hk35 hk66 n t_depths t_ways v1 v2 s0 v5 ((t_depths v5.toNatClampNeg) + ((1 : Int32))) _ h
    exact hz
  · refine xe_neg hc1010 (xe_k ?_)
    refine xe_seg ok 1 (G := (fun K => K (69, xm_i69, xm_I69, 0, 0, 145, [(0, .ref 59), (1, .int v1), (2, .int v2), (3, .int v3), (4, .int s0), (5, .int v5)], [.int v3], xw_R X s_57_0 s_57_1 s_57_18 s_57_19 s_57_20 s_57_24 a_58 a_59 a_60 a_61 a_62 a_63 a_64 a_65 t_lines t_numbers a_68 a_69 t_parts t_sorts t_values t_items t_depths a_75 t_ways))) (fun K => rfl) ?_
    refine xe_k ?_
    refine xe_sub [true, true, true, false, true, true] (lv' := [(0, .ref 59), (1, .int v1), (2, .int v2), (4, .int s0), (5, .int v5)]) rfl ?_
    have hz := xh_rf_findDepths_57_145 (l := l) (g := g) ok a_58 a_59 a_60 a_61 a_62 a_63 a_64 a_65 a_68 a_69 a_75 s_57_0 s_57_1 s_57_18 s_57_19 s_57_20 s_57_24 X t_items t_lines t_numbers t_parts t_sorts t_values hk27 hk35 hk66 n t_depths t_ways v1 v2 s0 v5 v3 _ h
    exact hz
set_option maxHeartbeats 400000 in
theorem xh_rf_findDepths_57_116 {l : Launch} {g : xr_G} (ok : xr_OK xm_P) (a_58 a_59 a_60 a_61 a_62 a_63 a_64 a_65 a_68 a_69 a_75 : Nat → Int32) (s_57_0 s_57_1 s_57_18 s_57_19 s_57_20 s_57_24 : Int32) (X : Nat → xr_C) (t_items : (Nat → Int32)) (t_lines : (Nat → Int32)) (t_numbers : (Nat → Int32)) (t_parts : (Nat → Int32)) (t_sorts : (Nat → Int32)) (t_values : (Nat → Int32)) {k27 : (Nat → Int32) → (Nat → Int64) → Int32 → Option (Unit × (Nat → Int32) × (Nat → Int64))} (hk27 : ∀ (t_depths : (Nat → Int32)) (t_ways : (Nat → Int64)) (v1 : Int32) (r : (Unit × (Nat → Int32) × (Nat → Int64))), k27 t_depths t_ways v1 = some r → xV xm_P l g (69, xm_i69, xm_I69, 0, 0, 27, [(0, .ref 59), (1, .int v1)], [], xw_R X s_57_0 s_57_1 s_57_18 s_57_19 s_57_20 s_57_24 a_58 a_59 a_60 a_61 a_62 a_63 a_64 a_65 t_lines t_numbers a_68 a_69 t_parts t_sorts t_values t_items t_depths a_75 t_ways) (.inl none, xw_R X s_57_0 s_57_1 s_57_18 s_57_19 s_57_20 s_57_24 a_58 a_59 a_60 a_61 a_62 a_63 a_64 a_65 t_lines t_numbers a_68 a_69 t_parts t_sorts t_values t_items r.2.1 a_75 r.2.2)) {k35 : (Nat → Int32) → (Nat → Int64) → Int32 → Int32 → Option (Unit × (Nat → Int32) × (Nat → Int64))} (hk35 : ∀ (t_depths : (Nat → Int32)) (t_ways : (Nat → Int64)) (v1 : Int32) (v2 : Int32) (r : (Unit × (Nat → Int32) × (Nat → Int64))), k35 t_depths t_ways v1 v2 = some r → xV xm_P l g (69, xm_i69, xm_I69, 0, 0, 35, [(0, .ref 59), (1, .int v1), (2, .int v2)], [], xw_R X s_57_0 s_57_1 s_57_18 s_57_19 s_57_20 s_57_24 a_58 a_59 a_60 a_61 a_62 a_63 a_64 a_65 t_lines t_numbers a_68 a_69 t_parts t_sorts t_values t_items t_depths a_75 t_ways) (.inl none, xw_R X s_57_0 s_57_1 s_57_18 s_57_19 s_57_20 s_57_24 a_58 a_59 a_60 a_61 a_62 a_63 a_64 a_65 t_lines t_numbers a_68 a_69 t_parts t_sorts t_values t_items r.2.1 a_75 r.2.2)) {k66 : (Nat → Int32) → (Nat → Int64) → Int32 → Int32 → Int32 → Int32 → Int32 → Option (Unit × (Nat → Int32) × (Nat → Int64))} (hk66 : ∀ (t_depths : (Nat → Int32)) (t_ways : (Nat → Int64)) (v1 : Int32) (v2 : Int32) (v3 : Int32) (v4 : Int32) (v5 : Int32) (r : (Unit × (Nat → Int32) × (Nat → Int64))), k66 t_depths t_ways v1 v2 v3 v4 v5 = some r → xV xm_P l g (69, xm_i69, xm_I69, 0, 0, 66, [(0, .ref 59), (1, .int v1), (2, .int v2), (3, .int v3), (4, .int v4), (5, .int v5)], [], xw_R X s_57_0 s_57_1 s_57_18 s_57_19 s_57_20 s_57_24 a_58 a_59 a_60 a_61 a_62 a_63 a_64 a_65 t_lines t_numbers a_68 a_69 t_parts t_sorts t_values t_items t_depths a_75 t_ways) (.inl none, xw_R X s_57_0 s_57_1 s_57_18 s_57_19 s_57_20 s_57_24 a_58 a_59 a_60 a_61 a_62 a_63 a_64 a_65 t_lines t_numbers a_68 a_69 t_parts t_sorts t_values t_items r.2.1 a_75 r.2.2)) (n : Nat) : ∀ (t_depths : (Nat → Int32)) (t_ways : (Nat → Int64)) (v1 : Int32) (v2 : Int32) (v3 : Int32) (v5 : Int32) (r : (Unit × (Nat → Int32) × (Nat → Int64))), xf_rf_findDepths_116 t_items t_lines t_numbers t_parts t_sorts t_values k27 k35 k66 n t_depths t_ways v1 v2 v3 v5 = some r → xV xm_P l g (69, xm_i69, xm_I69, 0, 0, 116, [(0, .ref 59), (1, .int v1), (2, .int v2), (3, .int v3), (5, .int v5)], [], xw_R X s_57_0 s_57_1 s_57_18 s_57_19 s_57_20 s_57_24 a_58 a_59 a_60 a_61 a_62 a_63 a_64 a_65 t_lines t_numbers a_68 a_69 t_parts t_sorts t_values t_items t_depths a_75 t_ways) (.inl none, xw_R X s_57_0 s_57_1 s_57_18 s_57_19 s_57_20 s_57_24 a_58 a_59 a_60 a_61 a_62 a_63 a_64 a_65 t_lines t_numbers a_68 a_69 t_parts t_sorts t_values t_items r.2.1 a_75 r.2.2) := by
  intro t_depths t_ways v1 v2 v3 v5 r h
  unfold xf_rf_findDepths_116 at h
  refine xe_seg ok 1 (G := (fun K => K (69, xm_i69, xm_I69, 0, 0, 117, [(0, .ref 59), (1, .int v1), (2, .int v2), (3, .int v3), (5, .int v5)], [.int ((0 : Int32))], xw_R X s_57_0 s_57_1 s_57_18 s_57_19 s_57_20 s_57_24 a_58 a_59 a_60 a_61 a_62 a_63 a_64 a_65 t_lines t_numbers a_68 a_69 t_parts t_sorts t_values t_items t_depths a_75 t_ways))) (fun K => rfl) ?_
  refine xe_k ?_
  refine xe_sub [true, true, true, true, true] (lv' := [(0, .ref 59), (1, .int v1), (2, .int v2), (3, .int v3), (5, .int v5)]) rfl ?_
  have hz := xh_rf_findDepths_57_117 (l := l) (g := g) ok a_58 a_59 a_60 a_61 a_62 a_63 a_64 a_65 a_68 a_69 a_75 s_57_0 s_57_1 s_57_18 s_57_19 s_57_20 s_57_24 X t_items t_lines t_numbers t_parts t_sorts t_values hk27 hk35 hk66 n t_depths t_ways v1 v2 v3 v5 ((0 : Int32)) _ h
  exact hz
set_option maxHeartbeats 400000 in
theorem xh_rf_findDepths_57_166 {l : Launch} {g : xr_G} (ok : xr_OK xm_P) (a_58 a_59 a_60 a_61 a_62 a_63 a_64 a_65 a_68 a_69 a_75 : Nat → Int32) (s_57_0 s_57_1 s_57_18 s_57_19 s_57_20 s_57_24 : Int32) (X : Nat → xr_C) (t_items : (Nat → Int32)) (t_lines : (Nat → Int32)) (t_numbers : (Nat → Int32)) (t_parts : (Nat → Int32)) (t_sorts : (Nat → Int32)) (t_values : (Nat → Int32)) {k27 : (Nat → Int32) → (Nat → Int64) → Int32 → Option (Unit × (Nat → Int32) × (Nat → Int64))} (hk27 : ∀ (t_depths : (Nat → Int32)) (t_ways : (Nat → Int64)) (v1 : Int32) (r : (Unit × (Nat → Int32) × (Nat → Int64))), k27 t_depths t_ways v1 = some r → xV xm_P l g (69, xm_i69, xm_I69, 0, 0, 27, [(0, .ref 59), (1, .int v1)], [], xw_R X s_57_0 s_57_1 s_57_18 s_57_19 s_57_20 s_57_24 a_58 a_59 a_60 a_61 a_62 a_63 a_64 a_65 t_lines t_numbers a_68 a_69 t_parts t_sorts t_values t_items t_depths a_75 t_ways) (.inl none, xw_R X s_57_0 s_57_1 s_57_18 s_57_19 s_57_20 s_57_24 a_58 a_59 a_60 a_61 a_62 a_63 a_64 a_65 t_lines t_numbers a_68 a_69 t_parts t_sorts t_values t_items r.2.1 a_75 r.2.2)) {k35 : (Nat → Int32) → (Nat → Int64) → Int32 → Int32 → Option (Unit × (Nat → Int32) × (Nat → Int64))} (hk35 : ∀ (t_depths : (Nat → Int32)) (t_ways : (Nat → Int64)) (v1 : Int32) (v2 : Int32) (r : (Unit × (Nat → Int32) × (Nat → Int64))), k35 t_depths t_ways v1 v2 = some r → xV xm_P l g (69, xm_i69, xm_I69, 0, 0, 35, [(0, .ref 59), (1, .int v1), (2, .int v2)], [], xw_R X s_57_0 s_57_1 s_57_18 s_57_19 s_57_20 s_57_24 a_58 a_59 a_60 a_61 a_62 a_63 a_64 a_65 t_lines t_numbers a_68 a_69 t_parts t_sorts t_values t_items t_depths a_75 t_ways) (.inl none, xw_R X s_57_0 s_57_1 s_57_18 s_57_19 s_57_20 s_57_24 a_58 a_59 a_60 a_61 a_62 a_63 a_64 a_65 t_lines t_numbers a_68 a_69 t_parts t_sorts t_values t_items r.2.1 a_75 r.2.2)) (n : Nat) : ∀ (t_depths : (Nat → Int32)) (t_ways : (Nat → Int64)) (v1 : Int32) (v2 : Int32) (r : (Unit × (Nat → Int32) × (Nat → Int64))), xf_rf_findDepths_166 t_items t_lines t_numbers t_parts t_sorts t_values k27 k35 n t_depths t_ways v1 v2 = some r → xV xm_P l g (69, xm_i69, xm_I69, 0, 0, 166, [(0, .ref 59), (1, .int v1), (2, .int v2)], [], xw_R X s_57_0 s_57_1 s_57_18 s_57_19 s_57_20 s_57_24 a_58 a_59 a_60 a_61 a_62 a_63 a_64 a_65 t_lines t_numbers a_68 a_69 t_parts t_sorts t_values t_items t_depths a_75 t_ways) (.inl none, xw_R X s_57_0 s_57_1 s_57_18 s_57_19 s_57_20 s_57_24 a_58 a_59 a_60 a_61 a_62 a_63 a_64 a_65 t_lines t_numbers a_68 a_69 t_parts t_sorts t_values t_items r.2.1 a_75 r.2.2) := by
  intro t_depths t_ways v1 v2 r h
  unfold xf_rf_findDepths_166 at h
  refine xe_seg ok 2 (G := (fun K => K (69, xm_i69, xm_I69, 0, 0, 35, [(0, .ref 59), (1, .int v1), (2, .int (v2 + (1 : Int32)))], [], xw_R X s_57_0 s_57_1 s_57_18 s_57_19 s_57_20 s_57_24 a_58 a_59 a_60 a_61 a_62 a_63 a_64 a_65 t_lines t_numbers a_68 a_69 t_parts t_sorts t_values t_items t_depths a_75 t_ways))) (fun K => rfl) ?_
  refine xe_k ?_
  refine xe_sub [true, true, true] (lv' := [(0, .ref 59), (1, .int v1), (2, .int (v2 + (1 : Int32)))]) rfl ?_
  have hz := hk35 t_depths t_ways v1 (v2 + (1 : Int32)) _ h
  exact hz
set_option maxHeartbeats 400000 in
theorem xh_rf_findDepths_57_66 {l : Launch} {g : xr_G} (ok : xr_OK xm_P) (a_58 a_59 a_60 a_61 a_62 a_63 a_64 a_65 a_68 a_69 a_75 : Nat → Int32) (s_57_0 s_57_1 s_57_18 s_57_19 s_57_20 s_57_24 : Int32) (X : Nat → xr_C) (t_items : (Nat → Int32)) (t_lines : (Nat → Int32)) (t_numbers : (Nat → Int32)) (t_parts : (Nat → Int32)) (t_sorts : (Nat → Int32)) (t_values : (Nat → Int32)) {k27 : (Nat → Int32) → (Nat → Int64) → Int32 → Option (Unit × (Nat → Int32) × (Nat → Int64))} (hk27 : ∀ (t_depths : (Nat → Int32)) (t_ways : (Nat → Int64)) (v1 : Int32) (r : (Unit × (Nat → Int32) × (Nat → Int64))), k27 t_depths t_ways v1 = some r → xV xm_P l g (69, xm_i69, xm_I69, 0, 0, 27, [(0, .ref 59), (1, .int v1)], [], xw_R X s_57_0 s_57_1 s_57_18 s_57_19 s_57_20 s_57_24 a_58 a_59 a_60 a_61 a_62 a_63 a_64 a_65 t_lines t_numbers a_68 a_69 t_parts t_sorts t_values t_items t_depths a_75 t_ways) (.inl none, xw_R X s_57_0 s_57_1 s_57_18 s_57_19 s_57_20 s_57_24 a_58 a_59 a_60 a_61 a_62 a_63 a_64 a_65 t_lines t_numbers a_68 a_69 t_parts t_sorts t_values t_items r.2.1 a_75 r.2.2)) {k35 : (Nat → Int32) → (Nat → Int64) → Int32 → Int32 → Option (Unit × (Nat → Int32) × (Nat → Int64))} (hk35 : ∀ (t_depths : (Nat → Int32)) (t_ways : (Nat → Int64)) (v1 : Int32) (v2 : Int32) (r : (Unit × (Nat → Int32) × (Nat → Int64))), k35 t_depths t_ways v1 v2 = some r → xV xm_P l g (69, xm_i69, xm_I69, 0, 0, 35, [(0, .ref 59), (1, .int v1), (2, .int v2)], [], xw_R X s_57_0 s_57_1 s_57_18 s_57_19 s_57_20 s_57_24 a_58 a_59 a_60 a_61 a_62 a_63 a_64 a_65 t_lines t_numbers a_68 a_69 t_parts t_sorts t_values t_items t_depths a_75 t_ways) (.inl none, xw_R X s_57_0 s_57_1 s_57_18 s_57_19 s_57_20 s_57_24 a_58 a_59 a_60 a_61 a_62 a_63 a_64 a_65 t_lines t_numbers a_68 a_69 t_parts t_sorts t_values t_items r.2.1 a_75 r.2.2)) (n : Nat) : ∀ (N : Nat) (t_depths : (Nat → Int32)) (t_ways : (Nat → Int64)) (v1 : Int32) (v2 : Int32) (v3 : Int32) (v4 : Int32) (v5 : Int32) (r : (Unit × (Nat → Int32) × (Nat → Int64))), xf_rf_findDepths_66 t_items t_lines t_numbers t_parts t_sorts t_values k27 k35 n N t_depths t_ways v1 v2 v3 v4 v5 = some r → xV xm_P l g (69, xm_i69, xm_I69, 0, 0, 66, [(0, .ref 59), (1, .int v1), (2, .int v2), (3, .int v3), (4, .int v4), (5, .int v5)], [], xw_R X s_57_0 s_57_1 s_57_18 s_57_19 s_57_20 s_57_24 a_58 a_59 a_60 a_61 a_62 a_63 a_64 a_65 t_lines t_numbers a_68 a_69 t_parts t_sorts t_values t_items t_depths a_75 t_ways) (.inl none, xw_R X s_57_0 s_57_1 s_57_18 s_57_19 s_57_20 s_57_24 a_58 a_59 a_60 a_61 a_62 a_63 a_64 a_65 t_lines t_numbers a_68 a_69 t_parts t_sorts t_values t_items r.2.1 a_75 r.2.2) := by
  intro N
  induction N with
  | zero => intro t_depths t_ways v1 v2 v3 v4 v5 r h; cases h
  | succ N hk66 =>
    intro t_depths t_ways v1 v2 v3 v4 v5 r h
    refine xe_seg ok 5 (G := (fun K => if xr_in ((0 : Int32)) 3 = true then K (69, xm_i69, xm_I69, 0, 0, 74, [(0, .ref 59), (1, .int v1), (2, .int v2), (3, .int v3), (4, .int v4), (5, .int v5)], [.int (t_lines ((0 : Int32)).toNatClampNeg), .int v5], xw_R X s_57_0 s_57_1 s_57_18 s_57_19 s_57_20 s_57_24 a_58 a_59 a_60 a_61 a_62 a_63 a_64 a_65 t_lines t_numbers a_68 a_69 t_parts t_sorts t_values t_items t_depths a_75 t_ways) else none)) (fun K => rfl) ?_
    refine xe_pos (by decide) (xe_k ?_)
    refine xe_seg ok 1 (G := (fun K => if v5 < (t_lines ((0 : Int32)).toNatClampNeg) then K (69, xm_i69, xm_I69, 0, 0, 77, [(0, .ref 59), (1, .int v1), (2, .int v2), (3, .int v3), (4, .int v4), (5, .int v5)], [], xw_R X s_57_0 s_57_1 s_57_18 s_57_19 s_57_20 s_57_24 a_58 a_59 a_60 a_61 a_62 a_63 a_64 a_65 t_lines t_numbers a_68 a_69 t_parts t_sorts t_values t_items t_depths a_75 t_ways) else K (69, xm_i69, xm_I69, 0, 0, 152, [(0, .ref 59), (1, .int v1), (2, .int v2), (3, .int v3), (4, .int v4), (5, .int v5)], [], xw_R X s_57_0 s_57_1 s_57_18 s_57_19 s_57_20 s_57_24 a_58 a_59 a_60 a_61 a_62 a_63 a_64 a_65 t_lines t_numbers a_68 a_69 t_parts t_sorts t_values t_items t_depths a_75 t_ways))) (fun K => rfl) ?_
    rcases xb_if h with ⟨hc1005, h⟩ | ⟨hc1005, h⟩
    · refine xe_pos hc1005 (xe_k ?_)
      refine xe_seg ok 4 (G := (fun K => if xr_in v2 40 = true then K (69, xm_i69, xm_I69, 0, 0, 83, [(0, .ref 59), (1, .int v1), (2, .int v2), (3, .int v3), (4, .int v4), (5, .int v5)], [.long (t_ways v2.toNatClampNeg)], xw_R X s_57_0 s_57_1 s_57_18 s_57_19 s_57_20 s_57_24 a_58 a_59 a_60 a_61 a_62 a_63 a_64 a_65 t_lines t_numbers a_68 a_69 t_parts t_sorts t_values t_items t_depths a_75 t_ways) else none)) (fun K => rfl) ?_
      obtain ⟨hg1006, h⟩ := xn_if h
      refine xe_pos hg1006 (xe_k ?_)
      refine xe_seg ok 7 (G := (fun K => if (lg_cmp ((xe_shr (t_ways v2.toNatClampNeg) v5) &&& ((1 : Int64))) ((0 : Int64))) = (0 : Int32) then K (69, xm_i69, xm_I69, 0, 0, 93, [(0, .ref 59), (1, .int v1), (2, .int v2), (3, .int v3), (4, .int v4), (5, .int v5)], [], xw_R X s_57_0 s_57_1 s_57_18 s_57_19 s_57_20 s_57_24 a_58 a_59 a_60 a_61 a_62 a_63 a_64 a_65 t_lines t_numbers a_68 a_69 t_parts t_sorts t_values t_items t_depths a_75 t_ways) else K (69, xm_i69, xm_I69, 0, 0, 96, [(0, .ref 59), (1, .int v1), (2, .int v2), (3, .int v3), (4, .int v4), (5, .int v5)], [], xw_R X s_57_0 s_57_1 s_57_18 s_57_19 s_57_20 s_57_24 a_58 a_59 a_60 a_61 a_62 a_63 a_64 a_65 t_lines t_numbers a_68 a_69 t_parts t_sorts t_values t_items t_depths a_75 t_ways))) (fun K => rfl) ?_
      rcases xb_if h with ⟨hc1007, h⟩ | ⟨hc1007, h⟩
      · refine xe_pos hc1007 (xe_k ?_)
        refine xe_seg ok 1 (G := (fun K => K (69, xm_i69, xm_I69, 0, 0, 146, [(0, .ref 59), (1, .int v1), (2, .int v2), (3, .int v3), (4, .int v4), (5, .int v5)], [], xw_R X s_57_0 s_57_1 s_57_18 s_57_19 s_57_20 s_57_24 a_58 a_59 a_60 a_61 a_62 a_63 a_64 a_65 t_lines t_numbers a_68 a_69 t_parts t_sorts t_values t_items t_depths a_75 t_ways))) (fun K => rfl) ?_
        refine xe_k ?_
        refine xe_sub [true, true, true, true, true, true] (lv' := [(0, .ref 59), (1, .int v1), (2, .int v2), (3, .int v3), (4, .int v4), (5, .int v5)]) rfl ?_
        have hz := xh_rf_findDepths_57_146 (l := l) (g := g) ok a_58 a_59 a_60 a_61 a_62 a_63 a_64 a_65 a_68 a_69 a_75 s_57_0 s_57_1 s_57_18 s_57_19 s_57_20 s_57_24 X t_items t_lines t_numbers t_parts t_sorts t_values hk27 hk35 hk66 n t_depths t_ways v1 v2 v3 v4 v5 _ h
        exact hz
      · refine xe_neg hc1007 (xe_k ?_)
        refine xe_seg ok 2 (G := (fun K => if v4 = (0 : Int32) then K (69, xm_i69, xm_I69, 0, 0, 116, [(0, .ref 59), (1, .int v1), (2, .int v2), (3, .int v3), (4, .int v4), (5, .int v5)], [], xw_R X s_57_0 s_57_1 s_57_18 s_57_19 s_57_20 s_57_24 a_58 a_59 a_60 a_61 a_62 a_63 a_64 a_65 t_lines t_numbers a_68 a_69 t_parts t_sorts t_values t_items t_depths a_75 t_ways) else K (69, xm_i69, xm_I69, 0, 0, 101, [(0, .ref 59), (1, .int v1), (2, .int v2), (3, .int v3), (4, .int v4), (5, .int v5)], [], xw_R X s_57_0 s_57_1 s_57_18 s_57_19 s_57_20 s_57_24 a_58 a_59 a_60 a_61 a_62 a_63 a_64 a_65 t_lines t_numbers a_68 a_69 t_parts t_sorts t_values t_items t_depths a_75 t_ways))) (fun K => rfl) ?_
        rcases xb_if h with ⟨hc1008, h⟩ | ⟨hc1008, h⟩
        · refine xe_pos hc1008 (xe_k ?_)
          refine xe_sub [true, true, true, true, false, true] (lv' := [(0, .ref 59), (1, .int v1), (2, .int v2), (3, .int v3), (5, .int v5)]) rfl ?_
          have hz := xh_rf_findDepths_57_116 (l := l) (g := g) ok a_58 a_59 a_60 a_61 a_62 a_63 a_64 a_65 a_68 a_69 a_75 s_57_0 s_57_1 s_57_18 s_57_19 s_57_20 s_57_24 X t_items t_lines t_numbers t_parts t_sorts t_values hk27 hk35 hk66 n t_depths t_ways v1 v2 v3 v5 _ h
          exact hz
        · refine xe_neg hc1008 (xe_k ?_)
          refine xe_seg ok 4 (G := (fun K => if xr_in v5 40 = true then K (69, xm_i69, xm_I69, 0, 0, 108, [(0, .ref 59), (1, .int v1), (2, .int v2), (3, .int v3), (4, .int v4), (5, .int v5)], [.int (t_depths v5.toNatClampNeg)], xw_R X s_57_0 s_57_1 s_57_18 s_57_19 s_57_20 s_57_24 a_58 a_59 a_60 a_61 a_62 a_63 a_64 a_65 t_lines t_numbers a_68 a_69 t_parts t_sorts t_values t_items t_depths a_75 t_ways) else none)) (fun K => rfl) ?_
          obtain ⟨hg1012, h⟩ := xn_if h
          refine xe_pos hg1012 (xe_k ?_)
          refine xe_seg ok 2 (G := (fun K => if (t_depths v5.toNatClampNeg) = ((-1 : Int32)) then K (69, xm_i69, xm_I69, 0, 0, 116, [(0, .ref 59), (1, .int v1), (2, .int v2), (3, .int v3), (4, .int v4), (5, .int v5)], [], xw_R X s_57_0 s_57_1 s_57_18 s_57_19 s_57_20 s_57_24 a_58 a_59 a_60 a_61 a_62 a_63 a_64 a_65 t_lines t_numbers a_68 a_69 t_parts t_sorts t_values t_items t_depths a_75 t_ways) else K (69, xm_i69, xm_I69, 0, 0, 112, [(0, .ref 59), (1, .int v1), (2, .int v2), (3, .int v3), (4, .int v4), (5, .int v5)], [], xw_R X s_57_0 s_57_1 s_57_18 s_57_19 s_57_20 s_57_24 a_58 a_59 a_60 a_61 a_62 a_63 a_64 a_65 t_lines t_numbers a_68 a_69 t_parts t_sorts t_values t_items t_depths a_75 t_ways))) (fun K => rfl) ?_
          rcases xb_if h with ⟨hc1013, h⟩ | ⟨hc1013, h⟩
          · refine xe_pos hc1013 (xe_k ?_)
            refine xe_sub [true, true, true, true, false, true] (lv' := [(0, .ref 59), (1, .int v1), (2, .int v2), (3, .int v3), (5, .int v5)]) rfl ?_
            have hz := xh_rf_findDepths_57_116 (l := l) (g := g) ok a_58 a_59 a_60 a_61 a_62 a_63 a_64 a_65 a_68 a_69 a_75 s_57_0 s_57_1 s_57_18 s_57_19 s_57_20 s_57_24 X t_items t_lines t_numbers t_parts t_sorts t_values hk27 hk35 hk66 n t_depths t_ways v1 v2 v3 v5 _ h
            exact hz
          · refine xe_neg hc1013 (xe_k ?_)
            refine xe_seg ok 2 (G := (fun K => K (69, xm_i69, xm_I69, 0, 0, 117, [(0, .ref 59), (1, .int v1), (2, .int v2), (3, .int v3), (4, .int v4), (5, .int v5)], [.int ((1 : Int32))], xw_R X s_57_0 s_57_1 s_57_18 s_57_19 s_57_20 s_57_24 a_58 a_59 a_60 a_61 a_62 a_63 a_64 a_65 t_lines t_numbers a_68 a_69 t_parts t_sorts t_values t_items t_depths a_75 t_ways))) (fun K => rfl) ?_
            refine xe_k ?_
            refine xe_sub [true, true, true, true, false, true] (lv' := [(0, .ref 59), (1, .int v1), (2, .int v2), (3, .int v3), (5, .int v5)]) rfl ?_
            have hz := xh_rf_findDepths_57_117 (l := l) (g := g) ok a_58 a_59 a_60 a_61 a_62 a_63 a_64 a_65 a_68 a_69 a_75 s_57_0 s_57_1 s_57_18 s_57_19 s_57_20 s_57_24 X t_items t_lines t_numbers t_parts t_sorts t_values hk27 hk35 hk66 n t_depths t_ways v1 v2 v3 v5 ((1 : Int32)) _ h
            exact hz
    · refine xe_neg hc1005 (xe_k ?_)
      refine xe_seg ok 2 (G := (fun K => if v4 = (0 : Int32) then K (69, xm_i69, xm_I69, 0, 0, 166, [(0, .ref 59), (1, .int v1), (2, .int v2), (3, .int v3), (4, .int v4), (5, .int v5)], [], xw_R X s_57_0 s_57_1 s_57_18 s_57_19 s_57_20 s_57_24 a_58 a_59 a_60 a_61 a_62 a_63 a_64 a_65 t_lines t_numbers a_68 a_69 t_parts t_sorts t_values t_items t_depths a_75 t_ways) else K (69, xm_i69, xm_I69, 0, 0, 157, [(0, .ref 59), (1, .int v1), (2, .int v2), (3, .int v3), (4, .int v4), (5, .int v5)], [], xw_R X s_57_0 s_57_1 s_57_18 s_57_19 s_57_20 s_57_24 a_58 a_59 a_60 a_61 a_62 a_63 a_64 a_65 t_lines t_numbers a_68 a_69 t_parts t_sorts t_values t_items t_depths a_75 t_ways))) (fun K => rfl) ?_
      rcases xb_if h with ⟨hc1014, h⟩ | ⟨hc1014, h⟩
      · refine xe_pos hc1014 (xe_k ?_)
        refine xe_sub [true, true, true, false, false, false] (lv' := [(0, .ref 59), (1, .int v1), (2, .int v2)]) rfl ?_
        have hz := xh_rf_findDepths_57_166 (l := l) (g := g) ok a_58 a_59 a_60 a_61 a_62 a_63 a_64 a_65 a_68 a_69 a_75 s_57_0 s_57_1 s_57_18 s_57_19 s_57_20 s_57_24 X t_items t_lines t_numbers t_parts t_sorts t_values hk27 hk35 n t_depths t_ways v1 v2 _ h
        exact hz
      · refine xe_neg hc1014 (xe_k ?_)
        refine xe_seg ok 5 (G := (fun K => if xr_in v2 40 = true then K (69, xm_i69, xm_I69, 0, 0, 164, [(0, .ref 59), (1, .int v1), (2, .int v2), (3, .int v3), (4, .int v4), (5, .int v5)], [], xw_R X s_57_0 s_57_1 s_57_18 s_57_19 s_57_20 s_57_24 a_58 a_59 a_60 a_61 a_62 a_63 a_64 a_65 t_lines t_numbers a_68 a_69 t_parts t_sorts t_values t_items (upd t_depths v2.toNatClampNeg v3) a_75 t_ways) else none)) (fun K => rfl) ?_
        obtain ⟨hg1015, h⟩ := xn_if h
        refine xe_pos hg1015 (xe_k ?_)
        refine xe_seg ok 2 (G := (fun K => K (69, xm_i69, xm_I69, 0, 0, 166, [(0, .ref 59), (1, .int ((1 : Int32))), (2, .int v2), (3, .int v3), (4, .int v4), (5, .int v5)], [], xw_R X s_57_0 s_57_1 s_57_18 s_57_19 s_57_20 s_57_24 a_58 a_59 a_60 a_61 a_62 a_63 a_64 a_65 t_lines t_numbers a_68 a_69 t_parts t_sorts t_values t_items (upd t_depths v2.toNatClampNeg v3) a_75 t_ways))) (fun K => rfl) ?_
        refine xe_k ?_
        refine xe_sub [true, true, true, false, false, false] (lv' := [(0, .ref 59), (1, .int ((1 : Int32))), (2, .int v2)]) rfl ?_
        have hz := xh_rf_findDepths_57_166 (l := l) (g := g) ok a_58 a_59 a_60 a_61 a_62 a_63 a_64 a_65 a_68 a_69 a_75 s_57_0 s_57_1 s_57_18 s_57_19 s_57_20 s_57_24 X t_items t_lines t_numbers t_parts t_sorts t_values hk27 hk35 n (upd t_depths v2.toNatClampNeg v3) t_ways ((1 : Int32)) v2 _ h
        exact hz
set_option maxHeartbeats 400000 in
theorem xh_rf_findDepths_57_35 {l : Launch} {g : xr_G} (ok : xr_OK xm_P) (a_58 a_59 a_60 a_61 a_62 a_63 a_64 a_65 a_68 a_69 a_75 : Nat → Int32) (s_57_0 s_57_1 s_57_18 s_57_19 s_57_20 s_57_24 : Int32) (X : Nat → xr_C) (t_items : (Nat → Int32)) (t_lines : (Nat → Int32)) (t_numbers : (Nat → Int32)) (t_parts : (Nat → Int32)) (t_sorts : (Nat → Int32)) (t_values : (Nat → Int32)) {k27 : (Nat → Int32) → (Nat → Int64) → Int32 → Option (Unit × (Nat → Int32) × (Nat → Int64))} (hk27 : ∀ (t_depths : (Nat → Int32)) (t_ways : (Nat → Int64)) (v1 : Int32) (r : (Unit × (Nat → Int32) × (Nat → Int64))), k27 t_depths t_ways v1 = some r → xV xm_P l g (69, xm_i69, xm_I69, 0, 0, 27, [(0, .ref 59), (1, .int v1)], [], xw_R X s_57_0 s_57_1 s_57_18 s_57_19 s_57_20 s_57_24 a_58 a_59 a_60 a_61 a_62 a_63 a_64 a_65 t_lines t_numbers a_68 a_69 t_parts t_sorts t_values t_items t_depths a_75 t_ways) (.inl none, xw_R X s_57_0 s_57_1 s_57_18 s_57_19 s_57_20 s_57_24 a_58 a_59 a_60 a_61 a_62 a_63 a_64 a_65 t_lines t_numbers a_68 a_69 t_parts t_sorts t_values t_items r.2.1 a_75 r.2.2)) (n : Nat) : ∀ (N : Nat) (t_depths : (Nat → Int32)) (t_ways : (Nat → Int64)) (v1 : Int32) (v2 : Int32) (r : (Unit × (Nat → Int32) × (Nat → Int64))), xf_rf_findDepths_35 t_items t_lines t_numbers t_parts t_sorts t_values k27 n N t_depths t_ways v1 v2 = some r → xV xm_P l g (69, xm_i69, xm_I69, 0, 0, 35, [(0, .ref 59), (1, .int v1), (2, .int v2)], [], xw_R X s_57_0 s_57_1 s_57_18 s_57_19 s_57_20 s_57_24 a_58 a_59 a_60 a_61 a_62 a_63 a_64 a_65 t_lines t_numbers a_68 a_69 t_parts t_sorts t_values t_items t_depths a_75 t_ways) (.inl none, xw_R X s_57_0 s_57_1 s_57_18 s_57_19 s_57_20 s_57_24 a_58 a_59 a_60 a_61 a_62 a_63 a_64 a_65 t_lines t_numbers a_68 a_69 t_parts t_sorts t_values t_items r.2.1 a_75 r.2.2) := by
  intro N
  induction N with
  | zero => intro t_depths t_ways v1 v2 r h; cases h
  | succ N hk35 =>
    intro t_depths t_ways v1 v2 r h
    refine xe_seg ok 5 (G := (fun K => if xr_in ((0 : Int32)) 3 = true then K (69, xm_i69, xm_I69, 0, 0, 42, [(0, .ref 59), (1, .int v1), (2, .int v2)], [.int (t_lines ((0 : Int32)).toNatClampNeg), .int v2], xw_R X s_57_0 s_57_1 s_57_18 s_57_19 s_57_20 s_57_24 a_58 a_59 a_60 a_61 a_62 a_63 a_64 a_65 t_lines t_numbers a_68 a_69 t_parts t_sorts t_values t_items t_depths a_75 t_ways) else none)) (fun K => rfl) ?_
    refine xe_pos (by decide) (xe_k ?_)
    refine xe_seg ok 1 (G := (fun K => if v2 < (t_lines ((0 : Int32)).toNatClampNeg) then K (69, xm_i69, xm_I69, 0, 0, 45, [(0, .ref 59), (1, .int v1), (2, .int v2)], [], xw_R X s_57_0 s_57_1 s_57_18 s_57_19 s_57_20 s_57_24 a_58 a_59 a_60 a_61 a_62 a_63 a_64 a_65 t_lines t_numbers a_68 a_69 t_parts t_sorts t_values t_items t_depths a_75 t_ways) else K (69, xm_i69, xm_I69, 0, 0, 172, [(0, .ref 59), (1, .int v1), (2, .int v2)], [], xw_R X s_57_0 s_57_1 s_57_18 s_57_19 s_57_20 s_57_24 a_58 a_59 a_60 a_61 a_62 a_63 a_64 a_65 t_lines t_numbers a_68 a_69 t_parts t_sorts t_values t_items t_depths a_75 t_ways))) (fun K => rfl) ?_
    rcases xb_if h with ⟨hc1002, h⟩ | ⟨hc1002, h⟩
    · refine xe_pos hc1002 (xe_k ?_)
      refine xe_seg ok 4 (G := (fun K => if xr_in v2 40 = true then K (69, xm_i69, xm_I69, 0, 0, 51, [(0, .ref 59), (1, .int v1), (2, .int v2)], [.int (t_depths v2.toNatClampNeg)], xw_R X s_57_0 s_57_1 s_57_18 s_57_19 s_57_20 s_57_24 a_58 a_59 a_60 a_61 a_62 a_63 a_64 a_65 t_lines t_numbers a_68 a_69 t_parts t_sorts t_values t_items t_depths a_75 t_ways) else none)) (fun K => rfl) ?_
      obtain ⟨hg1003, h⟩ := xn_if h
      refine xe_pos hg1003 (xe_k ?_)
      refine xe_seg ok 2 (G := (fun K => if (t_depths v2.toNatClampNeg) = ((-1 : Int32)) then K (69, xm_i69, xm_I69, 0, 0, 58, [(0, .ref 59), (1, .int v1), (2, .int v2)], [], xw_R X s_57_0 s_57_1 s_57_18 s_57_19 s_57_20 s_57_24 a_58 a_59 a_60 a_61 a_62 a_63 a_64 a_65 t_lines t_numbers a_68 a_69 t_parts t_sorts t_values t_items t_depths a_75 t_ways) else K (69, xm_i69, xm_I69, 0, 0, 55, [(0, .ref 59), (1, .int v1), (2, .int v2)], [], xw_R X s_57_0 s_57_1 s_57_18 s_57_19 s_57_20 s_57_24 a_58 a_59 a_60 a_61 a_62 a_63 a_64 a_65 t_lines t_numbers a_68 a_69 t_parts t_sorts t_values t_items t_depths a_75 t_ways))) (fun K => rfl) ?_
      rcases xb_if h with ⟨hc1004, h⟩ | ⟨hc1004, h⟩
      · refine xe_pos hc1004 (xe_k ?_)
        refine xe_seg ok 6 (G := (fun K => K (69, xm_i69, xm_I69, 0, 0, 66, [(0, .ref 59), (1, .int v1), (2, .int v2), (3, .int ((0 : Int32))), (4, .int ((1 : Int32))), (5, .int ((0 : Int32)))], [], xw_R X s_57_0 s_57_1 s_57_18 s_57_19 s_57_20 s_57_24 a_58 a_59 a_60 a_61 a_62 a_63 a_64 a_65 t_lines t_numbers a_68 a_69 t_parts t_sorts t_values t_items t_depths a_75 t_ways))) (fun K => rfl) ?_
        refine xe_k ?_
        refine xe_sub [true, true, true, true, true, true] (lv' := [(0, .ref 59), (1, .int v1), (2, .int v2), (3, .int ((0 : Int32))), (4, .int ((1 : Int32))), (5, .int ((0 : Int32)))]) rfl ?_
        have hz := xh_rf_findDepths_57_66 (l := l) (g := g) ok a_58 a_59 a_60 a_61 a_62 a_63 a_64 a_65 a_68 a_69 a_75 s_57_0 s_57_1 s_57_18 s_57_19 s_57_20 s_57_24 X t_items t_lines t_numbers t_parts t_sorts t_values hk27 hk35 n n t_depths t_ways v1 v2 ((0 : Int32)) ((1 : Int32)) ((0 : Int32)) _ h
        exact hz
      · refine xe_neg hc1004 (xe_k ?_)
        refine xe_seg ok 1 (G := (fun K => K (69, xm_i69, xm_I69, 0, 0, 166, [(0, .ref 59), (1, .int v1), (2, .int v2)], [], xw_R X s_57_0 s_57_1 s_57_18 s_57_19 s_57_20 s_57_24 a_58 a_59 a_60 a_61 a_62 a_63 a_64 a_65 t_lines t_numbers a_68 a_69 t_parts t_sorts t_values t_items t_depths a_75 t_ways))) (fun K => rfl) ?_
        refine xe_k ?_
        refine xe_sub [true, true, true] (lv' := [(0, .ref 59), (1, .int v1), (2, .int v2)]) rfl ?_
        have hz := xh_rf_findDepths_57_166 (l := l) (g := g) ok a_58 a_59 a_60 a_61 a_62 a_63 a_64 a_65 a_68 a_69 a_75 s_57_0 s_57_1 s_57_18 s_57_19 s_57_20 s_57_24 X t_items t_lines t_numbers t_parts t_sorts t_values hk27 hk35 n t_depths t_ways v1 v2 _ h
        exact hz
    · refine xe_neg hc1002 (xe_k ?_)
      refine xe_seg ok 1 (G := (fun K => K (69, xm_i69, xm_I69, 0, 0, 27, [(0, .ref 59), (1, .int v1), (2, .int v2)], [], xw_R X s_57_0 s_57_1 s_57_18 s_57_19 s_57_20 s_57_24 a_58 a_59 a_60 a_61 a_62 a_63 a_64 a_65 t_lines t_numbers a_68 a_69 t_parts t_sorts t_values t_items t_depths a_75 t_ways))) (fun K => rfl) ?_
      refine xe_k ?_
      refine xe_sub [true, true, false] (lv' := [(0, .ref 59), (1, .int v1)]) rfl ?_
      have hz := hk27 t_depths t_ways v1 _ h
      exact hz
set_option maxHeartbeats 400000 in
theorem xh_rf_findDepths_57_27 {l : Launch} {g : xr_G} (ok : xr_OK xm_P) (a_58 a_59 a_60 a_61 a_62 a_63 a_64 a_65 a_68 a_69 a_75 : Nat → Int32) (s_57_0 s_57_1 s_57_18 s_57_19 s_57_20 s_57_24 : Int32) (X : Nat → xr_C) (t_items : (Nat → Int32)) (t_lines : (Nat → Int32)) (t_numbers : (Nat → Int32)) (t_parts : (Nat → Int32)) (t_sorts : (Nat → Int32)) (t_values : (Nat → Int32)) (n : Nat) : ∀ (N : Nat) (t_depths : (Nat → Int32)) (t_ways : (Nat → Int64)) (v1 : Int32) (r : (Unit × (Nat → Int32) × (Nat → Int64))), xf_rf_findDepths_27 t_items t_lines t_numbers t_parts t_sorts t_values n N t_depths t_ways v1 = some r → xV xm_P l g (69, xm_i69, xm_I69, 0, 0, 27, [(0, .ref 59), (1, .int v1)], [], xw_R X s_57_0 s_57_1 s_57_18 s_57_19 s_57_20 s_57_24 a_58 a_59 a_60 a_61 a_62 a_63 a_64 a_65 t_lines t_numbers a_68 a_69 t_parts t_sorts t_values t_items t_depths a_75 t_ways) (.inl none, xw_R X s_57_0 s_57_1 s_57_18 s_57_19 s_57_20 s_57_24 a_58 a_59 a_60 a_61 a_62 a_63 a_64 a_65 t_lines t_numbers a_68 a_69 t_parts t_sorts t_values t_items r.2.1 a_75 r.2.2) := by
  intro N
  induction N with
  | zero => intro t_depths t_ways v1 r h; cases h
  | succ N hk27 =>
    intro t_depths t_ways v1 r h
    refine xe_seg ok 2 (G := (fun K => if v1 = (0 : Int32) then K (69, xm_i69, xm_I69, 0, 0, 175, [(0, .ref 59), (1, .int v1)], [], xw_R X s_57_0 s_57_1 s_57_18 s_57_19 s_57_20 s_57_24 a_58 a_59 a_60 a_61 a_62 a_63 a_64 a_65 t_lines t_numbers a_68 a_69 t_parts t_sorts t_values t_items t_depths a_75 t_ways) else K (69, xm_i69, xm_I69, 0, 0, 31, [(0, .ref 59), (1, .int v1)], [], xw_R X s_57_0 s_57_1 s_57_18 s_57_19 s_57_20 s_57_24 a_58 a_59 a_60 a_61 a_62 a_63 a_64 a_65 t_lines t_numbers a_68 a_69 t_parts t_sorts t_values t_items t_depths a_75 t_ways))) (fun K => rfl) ?_
    rcases xb_if h with ⟨hc1001, h⟩ | ⟨hc1001, h⟩
    · refine xe_pos hc1001 (xe_k ?_)
      obtain rfl := Option.some.inj h
      refine xe_seg ok 1 (G := (fun _ => some (.inl none, xw_R X s_57_0 s_57_1 s_57_18 s_57_19 s_57_20 s_57_24 a_58 a_59 a_60 a_61 a_62 a_63 a_64 a_65 t_lines t_numbers a_68 a_69 t_parts t_sorts t_values t_items t_depths a_75 t_ways))) (fun K => rfl) ?_
      exact xe_ret
    · refine xe_neg hc1001 (xe_k ?_)
      refine xe_seg ok 4 (G := (fun K => K (69, xm_i69, xm_I69, 0, 0, 35, [(0, .ref 59), (1, .int ((0 : Int32))), (2, .int ((0 : Int32)))], [], xw_R X s_57_0 s_57_1 s_57_18 s_57_19 s_57_20 s_57_24 a_58 a_59 a_60 a_61 a_62 a_63 a_64 a_65 t_lines t_numbers a_68 a_69 t_parts t_sorts t_values t_items t_depths a_75 t_ways))) (fun K => rfl) ?_
      refine xe_k ?_
      refine xe_sub [true, true, true] (lv' := [(0, .ref 59), (1, .int ((0 : Int32))), (2, .int ((0 : Int32)))]) rfl ?_
      have hz := xh_rf_findDepths_57_35 (l := l) (g := g) ok a_58 a_59 a_60 a_61 a_62 a_63 a_64 a_65 a_68 a_69 a_75 s_57_0 s_57_1 s_57_18 s_57_19 s_57_20 s_57_24 X t_items t_lines t_numbers t_parts t_sorts t_values hk27 n n t_depths t_ways ((0 : Int32)) ((0 : Int32)) _ h
      exact hz
set_option maxHeartbeats 400000 in
theorem xh_rf_findDepths_57_6 {l : Launch} {g : xr_G} (ok : xr_OK xm_P) (a_58 a_59 a_60 a_61 a_62 a_63 a_64 a_65 a_68 a_69 a_75 : Nat → Int32) (s_57_0 s_57_1 s_57_18 s_57_19 s_57_20 s_57_24 : Int32) (X : Nat → xr_C) (t_items : (Nat → Int32)) (t_lines : (Nat → Int32)) (t_numbers : (Nat → Int32)) (t_parts : (Nat → Int32)) (t_sorts : (Nat → Int32)) (t_values : (Nat → Int32)) (n : Nat) : ∀ (N : Nat) (t_depths : (Nat → Int32)) (t_ways : (Nat → Int64)) (v1 : Int32) (r : (Unit × (Nat → Int32) × (Nat → Int64))), xf_rf_findDepths_6 t_items t_lines t_numbers t_parts t_sorts t_values n N t_depths t_ways v1 = some r → xV xm_P l g (69, xm_i69, xm_I69, 0, 0, 6, [(0, .ref 59), (1, .int v1)], [], xw_R X s_57_0 s_57_1 s_57_18 s_57_19 s_57_20 s_57_24 a_58 a_59 a_60 a_61 a_62 a_63 a_64 a_65 t_lines t_numbers a_68 a_69 t_parts t_sorts t_values t_items t_depths a_75 t_ways) (.inl none, xw_R X s_57_0 s_57_1 s_57_18 s_57_19 s_57_20 s_57_24 a_58 a_59 a_60 a_61 a_62 a_63 a_64 a_65 t_lines t_numbers a_68 a_69 t_parts t_sorts t_values t_items r.2.1 a_75 r.2.2) := by
  intro N
  induction N with
  | zero => intro t_depths t_ways v1 r h; cases h
  | succ N hk6 =>
    intro t_depths t_ways v1 r h
    refine xe_seg ok 3 (G := (fun K => if v1 < ((40 : Int32)) then K (69, xm_i69, xm_I69, 0, 0, 12, [(0, .ref 59), (1, .int v1)], [], xw_R X s_57_0 s_57_1 s_57_18 s_57_19 s_57_20 s_57_24 a_58 a_59 a_60 a_61 a_62 a_63 a_64 a_65 t_lines t_numbers a_68 a_69 t_parts t_sorts t_values t_items t_depths a_75 t_ways) else K (69, xm_i69, xm_I69, 0, 0, 25, [(0, .ref 59), (1, .int v1)], [], xw_R X s_57_0 s_57_1 s_57_18 s_57_19 s_57_20 s_57_24 a_58 a_59 a_60 a_61 a_62 a_63 a_64 a_65 t_lines t_numbers a_68 a_69 t_parts t_sorts t_values t_items t_depths a_75 t_ways))) (fun K => rfl) ?_
    rcases xb_if h with ⟨hc999, h⟩ | ⟨hc999, h⟩
    · refine xe_pos hc999 (xe_k ?_)
      refine xe_seg ok 5 (G := (fun K => if xr_in v1 40 = true then K (69, xm_i69, xm_I69, 0, 0, 19, [(0, .ref 59), (1, .int v1)], [], xw_R X s_57_0 s_57_1 s_57_18 s_57_19 s_57_20 s_57_24 a_58 a_59 a_60 a_61 a_62 a_63 a_64 a_65 t_lines t_numbers a_68 a_69 t_parts t_sorts t_values t_items (upd t_depths v1.toNatClampNeg (((-1 : Int32)))) a_75 t_ways) else none)) (fun K => rfl) ?_
      obtain ⟨hg1000, h⟩ := xn_if h
      refine xe_pos hg1000 (xe_k ?_)
      refine xe_seg ok 2 (G := (fun K => K (69, xm_i69, xm_I69, 0, 0, 6, [(0, .ref 59), (1, .int (v1 + (1 : Int32)))], [], xw_R X s_57_0 s_57_1 s_57_18 s_57_19 s_57_20 s_57_24 a_58 a_59 a_60 a_61 a_62 a_63 a_64 a_65 t_lines t_numbers a_68 a_69 t_parts t_sorts t_values t_items (upd t_depths v1.toNatClampNeg (((-1 : Int32)))) a_75 t_ways))) (fun K => rfl) ?_
      refine xe_k ?_
      refine xe_sub [true, true] (lv' := [(0, .ref 59), (1, .int (v1 + (1 : Int32)))]) rfl ?_
      have hz := hk6 (upd t_depths v1.toNatClampNeg (((-1 : Int32)))) t_ways (v1 + (1 : Int32)) _ h
      exact hz
    · refine xe_neg hc999 (xe_k ?_)
      refine xe_seg ok 2 (G := (fun K => K (69, xm_i69, xm_I69, 0, 0, 27, [(0, .ref 59), (1, .int ((1 : Int32)))], [], xw_R X s_57_0 s_57_1 s_57_18 s_57_19 s_57_20 s_57_24 a_58 a_59 a_60 a_61 a_62 a_63 a_64 a_65 t_lines t_numbers a_68 a_69 t_parts t_sorts t_values t_items t_depths a_75 t_ways))) (fun K => rfl) ?_
      refine xe_k ?_
      refine xe_sub [true, true] (lv' := [(0, .ref 59), (1, .int ((1 : Int32)))]) rfl ?_
      have hz := xh_rf_findDepths_57_27 (l := l) (g := g) ok a_58 a_59 a_60 a_61 a_62 a_63 a_64 a_65 a_68 a_69 a_75 s_57_0 s_57_1 s_57_18 s_57_19 s_57_20 s_57_24 X t_items t_lines t_numbers t_parts t_sorts t_values n n t_depths t_ways ((1 : Int32)) _ h
      exact hz
set_option maxHeartbeats 400000 in
theorem xh_rf_findDepths_57 {l : Launch} {g : xr_G} (ok : xr_OK xm_P) (a_58 a_59 a_60 a_61 a_62 a_63 a_64 a_65 a_68 a_69 a_75 : Nat → Int32) (s_57_0 s_57_1 s_57_18 s_57_19 s_57_20 s_57_24 : Int32) (X : Nat → xr_C) (t_items : (Nat → Int32)) (t_lines : (Nat → Int32)) (t_numbers : (Nat → Int32)) (t_parts : (Nat → Int32)) (t_sorts : (Nat → Int32)) (t_values : (Nat → Int32)) (n : Nat) : ∀ (t_depths : (Nat → Int32)) (t_ways : (Nat → Int64)) (r : (Unit × (Nat → Int32) × (Nat → Int64))), xf_rf_findDepths t_items t_lines t_numbers t_parts t_sorts t_values n t_depths t_ways = some r → xV xm_P l g (69, xm_i69, xm_I69, 0, 0, 0, [(0, .ref 59)], [], xw_R X s_57_0 s_57_1 s_57_18 s_57_19 s_57_20 s_57_24 a_58 a_59 a_60 a_61 a_62 a_63 a_64 a_65 t_lines t_numbers a_68 a_69 t_parts t_sorts t_values t_items t_depths a_75 t_ways) (.inl none, xw_R X s_57_0 s_57_1 s_57_18 s_57_19 s_57_20 s_57_24 a_58 a_59 a_60 a_61 a_62 a_63 a_64 a_65 t_lines t_numbers a_68 a_69 t_parts t_sorts t_values t_items r.2.1 a_75 r.2.2) := by
  intro t_depths t_ways r h
  unfold xf_rf_findDepths at h
  refine xe_seg ok 2 (G := (fun K => xr_back K 69 xm_i69 xm_I69 0 0 1 [(0, .ref 59)] [] 78 true (K (68, xm_i68, xm_I68, 0, 0, 0, [(0, .ref 59)], [], xw_R X s_57_0 s_57_1 s_57_18 s_57_19 s_57_20 s_57_24 a_58 a_59 a_60 a_61 a_62 a_63 a_64 a_65 t_lines t_numbers a_68 a_69 t_parts t_sorts t_values t_items t_depths a_75 t_ways)))) (fun K => rfl) ?_
  obtain ⟨q998, hq998, h⟩ := Option.bind_eq_some_iff.mp h
  have heq998 := xh_rf_findWays_57 (l := l) (g := g) ok a_58 a_59 a_60 a_61 a_62 a_63 a_64 a_65 a_68 a_69 t_depths a_75 s_57_0 s_57_1 s_57_18 s_57_19 s_57_20 s_57_24 X t_items t_lines t_numbers t_parts t_sorts t_values n t_ways _ hq998
  refine xe_call0 (ws' := xw_R X s_57_0 s_57_1 s_57_18 s_57_19 s_57_20 s_57_24 a_58 a_59 a_60 a_61 a_62 a_63 a_64 a_65 t_lines t_numbers a_68 a_69 t_parts t_sorts t_values t_items t_depths a_75 q998.2) (by decide) heq998 (Or.inl rfl) ?_
  refine xe_seg ok 2 (G := (fun K => K (69, xm_i69, xm_I69, 0, 0, 6, [(0, .ref 59), (1, .int ((0 : Int32)))], [], xw_R X s_57_0 s_57_1 s_57_18 s_57_19 s_57_20 s_57_24 a_58 a_59 a_60 a_61 a_62 a_63 a_64 a_65 t_lines t_numbers a_68 a_69 t_parts t_sorts t_values t_items t_depths a_75 q998.2))) (fun K => rfl) ?_
  refine xe_k ?_
  refine xe_sub [true, true] (lv' := [(0, .ref 59), (1, .int ((0 : Int32)))]) rfl ?_
  have hz := xh_rf_findDepths_57_6 (l := l) (g := g) ok a_58 a_59 a_60 a_61 a_62 a_63 a_64 a_65 a_68 a_69 a_75 s_57_0 s_57_1 s_57_18 s_57_19 s_57_20 s_57_24 X t_items t_lines t_numbers t_parts t_sorts t_values n n t_depths q998.2 ((0 : Int32)) _ h
  exact hz
set_option maxHeartbeats 400000 in
theorem xh_rf_isSame_62_69_38 {l : Launch} {g : xr_G} (ok : xr_OK xm_P) (a_58 a_59 a_60 a_61 a_63 a_64 a_65 a_66 a_67 a_68 a_70 a_71 a_72 a_73 a_74 a_75 : Nat → Int32) (l_76 : Nat → Int64) (s_57_0 s_57_1 s_57_18 s_57_19 s_57_20 s_57_24 : Int32) (X : Nat → xr_C) (p1 : (Nat → Int32)) (p3 : (Nat → Int32)) {k6 : Int32 → Int32 → Int32 → Int32 → Int32 → Option (Int32)} (hk6 : ∀ (v1 : Int32) (v3 : Int32) (v4 : Int32) (v5 : Int32) (v6 : Int32) (r : (Int32)), k6 v1 v3 v4 v5 v6 = some r → xV xm_P l g (47, xm_i47, xm_I47, 0, 0, 6, [(0, .ref 64), (1, .int v1), (2, .ref 71), (3, .int v3), (4, .int v4), (5, .int v5), (6, .int v6)], [], xw_R X s_57_0 s_57_1 s_57_18 s_57_19 s_57_20 s_57_24 a_58 a_59 a_60 a_61 p1 a_63 a_64 a_65 a_66 a_67 a_68 p3 a_70 a_71 a_72 a_73 a_74 a_75 l_76) (.inl (some (.int r)), xw_R X s_57_0 s_57_1 s_57_18 s_57_19 s_57_20 s_57_24 a_58 a_59 a_60 a_61 p1 a_63 a_64 a_65 a_66 a_67 a_68 p3 a_70 a_71 a_72 a_73 a_74 a_75 l_76)) (n : Nat) : ∀ (v1 : Int32) (v3 : Int32) (v4 : Int32) (v6 : Int32) (s0 : Int32) (r : (Int32)), xf_rf_isSame_38 p1 p3 192 960 k6 n v1 v3 v4 v6 s0 = some r → xV xm_P l g (47, xm_i47, xm_I47, 0, 0, 38, [(0, .ref 64), (1, .int v1), (2, .ref 71), (3, .int v3), (4, .int v4), (6, .int v6)], [.int s0], xw_R X s_57_0 s_57_1 s_57_18 s_57_19 s_57_20 s_57_24 a_58 a_59 a_60 a_61 p1 a_63 a_64 a_65 a_66 a_67 a_68 p3 a_70 a_71 a_72 a_73 a_74 a_75 l_76) (.inl (some (.int r)), xw_R X s_57_0 s_57_1 s_57_18 s_57_19 s_57_20 s_57_24 a_58 a_59 a_60 a_61 p1 a_63 a_64 a_65 a_66 a_67 a_68 p3 a_70 a_71 a_72 a_73 a_74 a_75 l_76) := by
  intro v1 v3 v4 v6 s0 r h
  unfold xf_rf_isSame_38 at h
  refine xe_seg ok 3 (G := (fun K => K (47, xm_i47, xm_I47, 0, 0, 6, [(0, .ref 64), (1, .int v1), (2, .ref 71), (3, .int v3), (4, .int v4), (5, .int s0), (6, .int (v6 + (1 : Int32)))], [], xw_R X s_57_0 s_57_1 s_57_18 s_57_19 s_57_20 s_57_24 a_58 a_59 a_60 a_61 p1 a_63 a_64 a_65 a_66 a_67 a_68 p3 a_70 a_71 a_72 a_73 a_74 a_75 l_76))) (fun K => rfl) ?_
  refine xe_k ?_
  refine xe_sub [true, true, true, true, true, true, true] (lv' := [(0, .ref 64), (1, .int v1), (2, .ref 71), (3, .int v3), (4, .int v4), (5, .int s0), (6, .int (v6 + (1 : Int32)))]) rfl ?_
  have hz := hk6 v1 v3 v4 s0 (v6 + (1 : Int32)) _ h
  exact hz
set_option maxHeartbeats 400000 in
theorem xh_rf_isSame_62_69_37 {l : Launch} {g : xr_G} (ok : xr_OK xm_P) (a_58 a_59 a_60 a_61 a_63 a_64 a_65 a_66 a_67 a_68 a_70 a_71 a_72 a_73 a_74 a_75 : Nat → Int32) (l_76 : Nat → Int64) (s_57_0 s_57_1 s_57_18 s_57_19 s_57_20 s_57_24 : Int32) (X : Nat → xr_C) (p1 : (Nat → Int32)) (p3 : (Nat → Int32)) {k6 : Int32 → Int32 → Int32 → Int32 → Int32 → Option (Int32)} (hk6 : ∀ (v1 : Int32) (v3 : Int32) (v4 : Int32) (v5 : Int32) (v6 : Int32) (r : (Int32)), k6 v1 v3 v4 v5 v6 = some r → xV xm_P l g (47, xm_i47, xm_I47, 0, 0, 6, [(0, .ref 64), (1, .int v1), (2, .ref 71), (3, .int v3), (4, .int v4), (5, .int v5), (6, .int v6)], [], xw_R X s_57_0 s_57_1 s_57_18 s_57_19 s_57_20 s_57_24 a_58 a_59 a_60 a_61 p1 a_63 a_64 a_65 a_66 a_67 a_68 p3 a_70 a_71 a_72 a_73 a_74 a_75 l_76) (.inl (some (.int r)), xw_R X s_57_0 s_57_1 s_57_18 s_57_19 s_57_20 s_57_24 a_58 a_59 a_60 a_61 p1 a_63 a_64 a_65 a_66 a_67 a_68 p3 a_70 a_71 a_72 a_73 a_74 a_75 l_76)) (n : Nat) : ∀ (v1 : Int32) (v3 : Int32) (v4 : Int32) (v6 : Int32) (r : (Int32)), xf_rf_isSame_37 p1 p3 192 960 k6 n v1 v3 v4 v6 = some r → xV xm_P l g (47, xm_i47, xm_I47, 0, 0, 37, [(0, .ref 64), (1, .int v1), (2, .ref 71), (3, .int v3), (4, .int v4), (6, .int v6)], [], xw_R X s_57_0 s_57_1 s_57_18 s_57_19 s_57_20 s_57_24 a_58 a_59 a_60 a_61 p1 a_63 a_64 a_65 a_66 a_67 a_68 p3 a_70 a_71 a_72 a_73 a_74 a_75 l_76) (.inl (some (.int r)), xw_R X s_57_0 s_57_1 s_57_18 s_57_19 s_57_20 s_57_24 a_58 a_59 a_60 a_61 p1 a_63 a_64 a_65 a_66 a_67 a_68 p3 a_70 a_71 a_72 a_73 a_74 a_75 l_76) := by
  intro v1 v3 v4 v6 r h
  unfold xf_rf_isSame_37 at h
  refine xe_seg ok 1 (G := (fun K => K (47, xm_i47, xm_I47, 0, 0, 38, [(0, .ref 64), (1, .int v1), (2, .ref 71), (3, .int v3), (4, .int v4), (6, .int v6)], [.int ((0 : Int32))], xw_R X s_57_0 s_57_1 s_57_18 s_57_19 s_57_20 s_57_24 a_58 a_59 a_60 a_61 p1 a_63 a_64 a_65 a_66 a_67 a_68 p3 a_70 a_71 a_72 a_73 a_74 a_75 l_76))) (fun K => rfl) ?_
  refine xe_k ?_
  refine xe_sub [true, true, true, true, true, true] (lv' := [(0, .ref 64), (1, .int v1), (2, .ref 71), (3, .int v3), (4, .int v4), (6, .int v6)]) rfl ?_
  have hz := xh_rf_isSame_62_69_38 (l := l) (g := g) ok a_58 a_59 a_60 a_61 a_63 a_64 a_65 a_66 a_67 a_68 a_70 a_71 a_72 a_73 a_74 a_75 l_76 s_57_0 s_57_1 s_57_18 s_57_19 s_57_20 s_57_24 X p1 p3 hk6 n v1 v3 v4 v6 ((0 : Int32)) _ h
  exact hz
set_option maxHeartbeats 400000 in
theorem xh_rf_isSame_62_69_6 {l : Launch} {g : xr_G} (ok : xr_OK xm_P) (a_58 a_59 a_60 a_61 a_63 a_64 a_65 a_66 a_67 a_68 a_70 a_71 a_72 a_73 a_74 a_75 : Nat → Int32) (l_76 : Nat → Int64) (s_57_0 s_57_1 s_57_18 s_57_19 s_57_20 s_57_24 : Int32) (X : Nat → xr_C) (p1 : (Nat → Int32)) (p3 : (Nat → Int32)) (n : Nat) : ∀ (N : Nat) (v1 : Int32) (v3 : Int32) (v4 : Int32) (v5 : Int32) (v6 : Int32) (r : (Int32)), xf_rf_isSame_6 p1 p3 192 960 n N v1 v3 v4 v5 v6 = some r → xV xm_P l g (47, xm_i47, xm_I47, 0, 0, 6, [(0, .ref 64), (1, .int v1), (2, .ref 71), (3, .int v3), (4, .int v4), (5, .int v5), (6, .int v6)], [], xw_R X s_57_0 s_57_1 s_57_18 s_57_19 s_57_20 s_57_24 a_58 a_59 a_60 a_61 p1 a_63 a_64 a_65 a_66 a_67 a_68 p3 a_70 a_71 a_72 a_73 a_74 a_75 l_76) (.inl (some (.int r)), xw_R X s_57_0 s_57_1 s_57_18 s_57_19 s_57_20 s_57_24 a_58 a_59 a_60 a_61 p1 a_63 a_64 a_65 a_66 a_67 a_68 p3 a_70 a_71 a_72 a_73 a_74 a_75 l_76) := by
  intro N
  induction N with
  | zero => intro v1 v3 v4 v5 v6 r h; cases h
  | succ N hk6 =>
    intro v1 v3 v4 v5 v6 r h
    refine xe_seg ok 3 (G := (fun K => if v6 < v4 then K (47, xm_i47, xm_I47, 0, 0, 13, [(0, .ref 64), (1, .int v1), (2, .ref 71), (3, .int v3), (4, .int v4), (5, .int v5), (6, .int v6)], [], xw_R X s_57_0 s_57_1 s_57_18 s_57_19 s_57_20 s_57_24 a_58 a_59 a_60 a_61 p1 a_63 a_64 a_65 a_66 a_67 a_68 p3 a_70 a_71 a_72 a_73 a_74 a_75 l_76) else K (47, xm_i47, xm_I47, 0, 0, 46, [(0, .ref 64), (1, .int v1), (2, .ref 71), (3, .int v3), (4, .int v4), (5, .int v5), (6, .int v6)], [], xw_R X s_57_0 s_57_1 s_57_18 s_57_19 s_57_20 s_57_24 a_58 a_59 a_60 a_61 p1 a_63 a_64 a_65 a_66 a_67 a_68 p3 a_70 a_71 a_72 a_73 a_74 a_75 l_76))) (fun K => rfl) ?_
    rcases xb_if h with ⟨hc1023, h⟩ | ⟨hc1023, h⟩
    · refine xe_pos hc1023 (xe_k ?_)
      refine xe_seg ok 2 (G := (fun K => if v5 = (0 : Int32) then K (47, xm_i47, xm_I47, 0, 0, 37, [(0, .ref 64), (1, .int v1), (2, .ref 71), (3, .int v3), (4, .int v4), (5, .int v5), (6, .int v6)], [], xw_R X s_57_0 s_57_1 s_57_18 s_57_19 s_57_20 s_57_24 a_58 a_59 a_60 a_61 p1 a_63 a_64 a_65 a_66 a_67 a_68 p3 a_70 a_71 a_72 a_73 a_74 a_75 l_76) else K (47, xm_i47, xm_I47, 0, 0, 18, [(0, .ref 64), (1, .int v1), (2, .ref 71), (3, .int v3), (4, .int v4), (5, .int v5), (6, .int v6)], [], xw_R X s_57_0 s_57_1 s_57_18 s_57_19 s_57_20 s_57_24 a_58 a_59 a_60 a_61 p1 a_63 a_64 a_65 a_66 a_67 a_68 p3 a_70 a_71 a_72 a_73 a_74 a_75 l_76))) (fun K => rfl) ?_
      rcases xb_if h with ⟨hc1024, h⟩ | ⟨hc1024, h⟩
      · refine xe_pos hc1024 (xe_k ?_)
        refine xe_sub [true, true, true, true, true, false, true] (lv' := [(0, .ref 64), (1, .int v1), (2, .ref 71), (3, .int v3), (4, .int v4), (6, .int v6)]) rfl ?_
        have hz := xh_rf_isSame_62_69_37 (l := l) (g := g) ok a_58 a_59 a_60 a_61 a_63 a_64 a_65 a_66 a_67 a_68 a_70 a_71 a_72 a_73 a_74 a_75 l_76 s_57_0 s_57_1 s_57_18 s_57_19 s_57_20 s_57_24 X p1 p3 hk6 n v1 v3 v4 v6 _ h
        exact hz
      · refine xe_neg hc1024 (xe_k ?_)
        refine xe_seg ok 5 (G := (fun K => if xr_in (v1 + v6) 192 = true then K (47, xm_i47, xm_I47, 0, 0, 24, [(0, .ref 64), (1, .int v1), (2, .ref 71), (3, .int v3), (4, .int v4), (5, .int v5), (6, .int v6)], [.int (p1 (v1 + v6).toNatClampNeg)], xw_R X s_57_0 s_57_1 s_57_18 s_57_19 s_57_20 s_57_24 a_58 a_59 a_60 a_61 p1 a_63 a_64 a_65 a_66 a_67 a_68 p3 a_70 a_71 a_72 a_73 a_74 a_75 l_76) else none)) (fun K => rfl) ?_
        obtain ⟨hg1025, h⟩ := xn_if h
        refine xe_pos hg1025 (xe_k ?_)
        refine xe_seg ok 5 (G := (fun K => if xr_in (v3 + v6) 960 = true then K (47, xm_i47, xm_I47, 0, 0, 30, [(0, .ref 64), (1, .int v1), (2, .ref 71), (3, .int v3), (4, .int v4), (5, .int v5), (6, .int v6)], [.int (p3 (v3 + v6).toNatClampNeg), .int (p1 (v1 + v6).toNatClampNeg)], xw_R X s_57_0 s_57_1 s_57_18 s_57_19 s_57_20 s_57_24 a_58 a_59 a_60 a_61 p1 a_63 a_64 a_65 a_66 a_67 a_68 p3 a_70 a_71 a_72 a_73 a_74 a_75 l_76) else none)) (fun K => rfl) ?_
        obtain ⟨hg1026, h⟩ := xn_if h
        refine xe_pos hg1026 (xe_k ?_)
        refine xe_seg ok 1 (G := (fun K => if (p1 (v1 + v6).toNatClampNeg) = (p3 (v3 + v6).toNatClampNeg) then K (47, xm_i47, xm_I47, 0, 0, 33, [(0, .ref 64), (1, .int v1), (2, .ref 71), (3, .int v3), (4, .int v4), (5, .int v5), (6, .int v6)], [], xw_R X s_57_0 s_57_1 s_57_18 s_57_19 s_57_20 s_57_24 a_58 a_59 a_60 a_61 p1 a_63 a_64 a_65 a_66 a_67 a_68 p3 a_70 a_71 a_72 a_73 a_74 a_75 l_76) else K (47, xm_i47, xm_I47, 0, 0, 37, [(0, .ref 64), (1, .int v1), (2, .ref 71), (3, .int v3), (4, .int v4), (5, .int v5), (6, .int v6)], [], xw_R X s_57_0 s_57_1 s_57_18 s_57_19 s_57_20 s_57_24 a_58 a_59 a_60 a_61 p1 a_63 a_64 a_65 a_66 a_67 a_68 p3 a_70 a_71 a_72 a_73 a_74 a_75 l_76))) (fun K => rfl) ?_
        rcases xb_if h with ⟨hc1027, h⟩ | ⟨hc1027, h⟩
        · refine xe_pos hc1027 (xe_k ?_)
          refine xe_seg ok 2 (G := (fun K => K (47, xm_i47, xm_I47, 0, 0, 38, [(0, .ref 64), (1, .int v1), (2, .ref 71), (3, .int v3), (4, .int v4), (5, .int v5), (6, .int v6)], [.int ((1 : Int32))], xw_R X s_57_0 s_57_1 s_57_18 s_57_19 s_57_20 s_57_24 a_58 a_59 a_60 a_61 p1 a_63 a_64 a_65 a_66 a_67 a_68 p3 a_70 a_71 a_72 a_73 a_74 a_75 l_76))) (fun K => rfl) ?_
          refine xe_k ?_
          refine xe_sub [true, true, true, true, true, false, true] (lv' := [(0, .ref 64), (1, .int v1), (2, .ref 71), (3, .int v3), (4, .int v4), (6, .int v6)]) rfl ?_
          have hz := xh_rf_isSame_62_69_38 (l := l) (g := g) ok a_58 a_59 a_60 a_61 a_63 a_64 a_65 a_66 a_67 a_68 a_70 a_71 a_72 a_73 a_74 a_75 l_76 s_57_0 s_57_1 s_57_18 s_57_19 s_57_20 s_57_24 X p1 p3 hk6 n v1 v3 v4 v6 ((1 : Int32)) _ h
          exact hz
        · refine xe_neg hc1027 (xe_k ?_)
          refine xe_sub [true, true, true, true, true, false, true] (lv' := [(0, .ref 64), (1, .int v1), (2, .ref 71), (3, .int v3), (4, .int v4), (6, .int v6)]) rfl ?_
          have hz := xh_rf_isSame_62_69_37 (l := l) (g := g) ok a_58 a_59 a_60 a_61 a_63 a_64 a_65 a_66 a_67 a_68 a_70 a_71 a_72 a_73 a_74 a_75 l_76 s_57_0 s_57_1 s_57_18 s_57_19 s_57_20 s_57_24 X p1 p3 hk6 n v1 v3 v4 v6 _ h
          exact hz
    · refine xe_neg hc1023 (xe_k ?_)
      refine xe_seg ok 2 (G := (fun _ => if fits .boolean (.int v5) = true then some (.inl (some (.int v5)), xw_R X s_57_0 s_57_1 s_57_18 s_57_19 s_57_20 s_57_24 a_58 a_59 a_60 a_61 p1 a_63 a_64 a_65 a_66 a_67 a_68 p3 a_70 a_71 a_72 a_73 a_74 a_75 l_76) else none)) (fun K => rfl) ?_
      obtain ⟨hg1028, h⟩ := xn_if h
      obtain rfl := Option.some.inj h
      exact xe_pos (A := fun _ => some (.inl (some (.int v5)), xw_R X s_57_0 s_57_1 s_57_18 s_57_19 s_57_20 s_57_24 a_58 a_59 a_60 a_61 p1 a_63 a_64 a_65 a_66 a_67 a_68 p3 a_70 a_71 a_72 a_73 a_74 a_75 l_76)) (B := fun _ => none) hg1028 xe_ret
set_option maxHeartbeats 400000 in
theorem xh_rf_isSame_62_69 {l : Launch} {g : xr_G} (ok : xr_OK xm_P) (a_58 a_59 a_60 a_61 a_63 a_64 a_65 a_66 a_67 a_68 a_70 a_71 a_72 a_73 a_74 a_75 : Nat → Int32) (l_76 : Nat → Int64) (s_57_0 s_57_1 s_57_18 s_57_19 s_57_20 s_57_24 : Int32) (X : Nat → xr_C) (p1 : (Nat → Int32)) (p3 : (Nat → Int32)) (n : Nat) : ∀ (a2 : Int32) (a4 : Int32) (a5 : Int32) (r : (Int32)), xf_rf_isSame p1 p3 192 960 n a2 a4 a5 = some r → xV xm_P l g (47, xm_i47, xm_I47, 0, 0, 0, [(0, .ref 64), (1, .int a2), (2, .ref 71), (3, .int a4), (4, .int a5)], [], xw_R X s_57_0 s_57_1 s_57_18 s_57_19 s_57_20 s_57_24 a_58 a_59 a_60 a_61 p1 a_63 a_64 a_65 a_66 a_67 a_68 p3 a_70 a_71 a_72 a_73 a_74 a_75 l_76) (.inl (some (.int r)), xw_R X s_57_0 s_57_1 s_57_18 s_57_19 s_57_20 s_57_24 a_58 a_59 a_60 a_61 p1 a_63 a_64 a_65 a_66 a_67 a_68 p3 a_70 a_71 a_72 a_73 a_74 a_75 l_76) := by
  intro a2 a4 a5 r h
  unfold xf_rf_isSame at h
  refine xe_seg ok 4 (G := (fun K => K (47, xm_i47, xm_I47, 0, 0, 6, [(0, .ref 64), (1, .int a2), (2, .ref 71), (3, .int a4), (4, .int a5), (5, .int ((1 : Int32))), (6, .int ((0 : Int32)))], [], xw_R X s_57_0 s_57_1 s_57_18 s_57_19 s_57_20 s_57_24 a_58 a_59 a_60 a_61 p1 a_63 a_64 a_65 a_66 a_67 a_68 p3 a_70 a_71 a_72 a_73 a_74 a_75 l_76))) (fun K => rfl) ?_
  refine xe_k ?_
  refine xe_sub [true, true, true, true, true, true, true] (lv' := [(0, .ref 64), (1, .int a2), (2, .ref 71), (3, .int a4), (4, .int a5), (5, .int ((1 : Int32))), (6, .int ((0 : Int32)))]) rfl ?_
  have hz := xh_rf_isSame_62_69_6 (l := l) (g := g) ok a_58 a_59 a_60 a_61 a_63 a_64 a_65 a_66 a_67 a_68 a_70 a_71 a_72 a_73 a_74 a_75 l_76 s_57_0 s_57_1 s_57_18 s_57_19 s_57_20 s_57_24 X p1 p3 n n a2 a4 a5 ((1 : Int32)) ((0 : Int32)) _ h
  exact hz
set_option maxHeartbeats 400000 in
theorem xh_rf_kindOf_57_57 {l : Launch} {g : xr_G} (ok : xr_OK xm_P) (a_58 a_59 a_63 a_64 a_65 a_66 a_67 a_70 a_71 a_72 a_73 a_74 a_75 : Nat → Int32) (l_76 : Nat → Int64) (s_57_0 s_57_1 s_57_18 s_57_19 s_57_20 s_57_24 : Int32) (X : Nat → xr_C) (t_kindLetters : (Nat → Int32)) (t_kindNames : (Nat → Int32)) (t_kinds : (Nat → Int32)) (t_letters : (Nat → Int32)) (t_names : (Nat → Int32)) {k2 : Int32 → Int32 → Option (Int32)} (hk2 : ∀ (v1 : Int32) (v2 : Int32) (r : (Int32)), k2 v1 v2 = some r → xV xm_P l g (64, xm_i64, xm_I64, 0, 0, 2, [(0, .ref 59), (1, .int v1), (2, .int v2)], [], xw_R X s_57_0 s_57_1 s_57_18 s_57_19 s_57_20 s_57_24 a_58 a_59 t_kinds t_kindLetters t_kindNames a_63 a_64 a_65 a_66 a_67 t_letters t_names a_70 a_71 a_72 a_73 a_74 a_75 l_76) (.inl (some (.int r)), xw_R X s_57_0 s_57_1 s_57_18 s_57_19 s_57_20 s_57_24 a_58 a_59 t_kinds t_kindLetters t_kindNames a_63 a_64 a_65 a_66 a_67 t_letters t_names a_70 a_71 a_72 a_73 a_74 a_75 l_76)) (n : Nat) : ∀ (v1 : Int32) (v2 : Int32) (r : (Int32)), xf_rf_kindOf_57 t_kindLetters t_kindNames t_kinds t_letters t_names k2 n v1 v2 = some r → xV xm_P l g (64, xm_i64, xm_I64, 0, 0, 57, [(0, .ref 59), (1, .int v1), (2, .int v2)], [], xw_R X s_57_0 s_57_1 s_57_18 s_57_19 s_57_20 s_57_24 a_58 a_59 t_kinds t_kindLetters t_kindNames a_63 a_64 a_65 a_66 a_67 t_letters t_names a_70 a_71 a_72 a_73 a_74 a_75 l_76) (.inl (some (.int r)), xw_R X s_57_0 s_57_1 s_57_18 s_57_19 s_57_20 s_57_24 a_58 a_59 t_kinds t_kindLetters t_kindNames a_63 a_64 a_65 a_66 a_67 t_letters t_names a_70 a_71 a_72 a_73 a_74 a_75 l_76) := by
  intro v1 v2 r h
  unfold xf_rf_kindOf_57 at h
  refine xe_seg ok 2 (G := (fun K => K (64, xm_i64, xm_I64, 0, 0, 2, [(0, .ref 59), (1, .int v1), (2, .int (v2 + (1 : Int32)))], [], xw_R X s_57_0 s_57_1 s_57_18 s_57_19 s_57_20 s_57_24 a_58 a_59 t_kinds t_kindLetters t_kindNames a_63 a_64 a_65 a_66 a_67 t_letters t_names a_70 a_71 a_72 a_73 a_74 a_75 l_76))) (fun K => rfl) ?_
  refine xe_k ?_
  refine xe_sub [true, true, true] (lv' := [(0, .ref 59), (1, .int v1), (2, .int (v2 + (1 : Int32)))]) rfl ?_
  have hz := hk2 v1 (v2 + (1 : Int32)) _ h
  exact hz
set_option maxHeartbeats 400000 in
theorem xh_rf_kindOf_57_2 {l : Launch} {g : xr_G} (ok : xr_OK xm_P) (a_58 a_59 a_63 a_64 a_65 a_66 a_67 a_70 a_71 a_72 a_73 a_74 a_75 : Nat → Int32) (l_76 : Nat → Int64) (s_57_0 s_57_1 s_57_18 s_57_19 s_57_20 s_57_24 : Int32) (X : Nat → xr_C) (t_kindLetters : (Nat → Int32)) (t_kindNames : (Nat → Int32)) (t_kinds : (Nat → Int32)) (t_letters : (Nat → Int32)) (t_names : (Nat → Int32)) (n : Nat) : ∀ (N : Nat) (v1 : Int32) (v2 : Int32) (r : (Int32)), xf_rf_kindOf_2 t_kindLetters t_kindNames t_kinds t_letters t_names n N v1 v2 = some r → xV xm_P l g (64, xm_i64, xm_I64, 0, 0, 2, [(0, .ref 59), (1, .int v1), (2, .int v2)], [], xw_R X s_57_0 s_57_1 s_57_18 s_57_19 s_57_20 s_57_24 a_58 a_59 t_kinds t_kindLetters t_kindNames a_63 a_64 a_65 a_66 a_67 t_letters t_names a_70 a_71 a_72 a_73 a_74 a_75 l_76) (.inl (some (.int r)), xw_R X s_57_0 s_57_1 s_57_18 s_57_19 s_57_20 s_57_24 a_58 a_59 t_kinds t_kindLetters t_kindNames a_63 a_64 a_65 a_66 a_67 t_letters t_names a_70 a_71 a_72 a_73 a_74 a_75 l_76) := by
  intro N
  induction N with
  | zero => intro v1 v2 r h; cases h
  | succ N hk2 =>
    intro v1 v2 r h
    refine xe_seg ok 5 (G := (fun K => if xr_in ((0 : Int32)) 2 = true then K (64, xm_i64, xm_I64, 0, 0, 9, [(0, .ref 59), (1, .int v1), (2, .int v2)], [.int (t_kinds ((0 : Int32)).toNatClampNeg), .int v2], xw_R X s_57_0 s_57_1 s_57_18 s_57_19 s_57_20 s_57_24 a_58 a_59 t_kinds t_kindLetters t_kindNames a_63 a_64 a_65 a_66 a_67 t_letters t_names a_70 a_71 a_72 a_73 a_74 a_75 l_76) else none)) (fun K => rfl) ?_
    refine xe_pos (by decide) (xe_k ?_)
    refine xe_seg ok 1 (G := (fun K => if v2 < (t_kinds ((0 : Int32)).toNatClampNeg) then K (64, xm_i64, xm_I64, 0, 0, 12, [(0, .ref 59), (1, .int v1), (2, .int v2)], [], xw_R X s_57_0 s_57_1 s_57_18 s_57_19 s_57_20 s_57_24 a_58 a_59 t_kinds t_kindLetters t_kindNames a_63 a_64 a_65 a_66 a_67 t_letters t_names a_70 a_71 a_72 a_73 a_74 a_75 l_76) else K (64, xm_i64, xm_I64, 0, 0, 63, [(0, .ref 59), (1, .int v1), (2, .int v2)], [], xw_R X s_57_0 s_57_1 s_57_18 s_57_19 s_57_20 s_57_24 a_58 a_59 t_kinds t_kindLetters t_kindNames a_63 a_64 a_65 a_66 a_67 t_letters t_names a_70 a_71 a_72 a_73 a_74 a_75 l_76))) (fun K => rfl) ?_
    rcases xb_if h with ⟨hc1018, h⟩ | ⟨hc1018, h⟩
    · refine xe_pos hc1018 (xe_k ?_)
      refine xe_seg ok 4 (G := (fun K => if xr_in v2 24 = true then K (64, xm_i64, xm_I64, 0, 0, 18, [(0, .ref 59), (1, .int v1), (2, .int v2)], [.int (t_kindLetters v2.toNatClampNeg)], xw_R X s_57_0 s_57_1 s_57_18 s_57_19 s_57_20 s_57_24 a_58 a_59 t_kinds t_kindLetters t_kindNames a_63 a_64 a_65 a_66 a_67 t_letters t_names a_70 a_71 a_72 a_73 a_74 a_75 l_76) else none)) (fun K => rfl) ?_
      obtain ⟨hg1019, h⟩ := xn_if h
      refine xe_pos hg1019 (xe_k ?_)
      refine xe_seg ok 4 (G := (fun K => if xr_in v1 120 = true then K (64, xm_i64, xm_I64, 0, 0, 24, [(0, .ref 59), (1, .int v1), (2, .int v2)], [.int (t_letters v1.toNatClampNeg), .int (t_kindLetters v2.toNatClampNeg)], xw_R X s_57_0 s_57_1 s_57_18 s_57_19 s_57_20 s_57_24 a_58 a_59 t_kinds t_kindLetters t_kindNames a_63 a_64 a_65 a_66 a_67 t_letters t_names a_70 a_71 a_72 a_73 a_74 a_75 l_76) else none)) (fun K => rfl) ?_
      obtain ⟨hg1020, h⟩ := xn_if h
      refine xe_pos hg1020 (xe_k ?_)
      refine xe_seg ok 1 (G := (fun K => if (t_kindLetters v2.toNatClampNeg) = (t_letters v1.toNatClampNeg) then K (64, xm_i64, xm_I64, 0, 0, 27, [(0, .ref 59), (1, .int v1), (2, .int v2)], [], xw_R X s_57_0 s_57_1 s_57_18 s_57_19 s_57_20 s_57_24 a_58 a_59 t_kinds t_kindLetters t_kindNames a_63 a_64 a_65 a_66 a_67 t_letters t_names a_70 a_71 a_72 a_73 a_74 a_75 l_76) else K (64, xm_i64, xm_I64, 0, 0, 57, [(0, .ref 59), (1, .int v1), (2, .int v2)], [], xw_R X s_57_0 s_57_1 s_57_18 s_57_19 s_57_20 s_57_24 a_58 a_59 t_kinds t_kindLetters t_kindNames a_63 a_64 a_65 a_66 a_67 t_letters t_names a_70 a_71 a_72 a_73 a_74 a_75 l_76))) (fun K => rfl) ?_
      rcases xb_if h with ⟨hc1021, h⟩ | ⟨hc1021, h⟩
      · refine xe_pos hc1021 (xe_k ?_)
        refine xe_seg ok 14 (G := (fun K => if xr_in v1 120 = true then K (64, xm_i64, xm_I64, 0, 0, 49, [(0, .ref 59), (1, .int v1), (2, .int v2)], [.int (t_letters v1.toNatClampNeg), .int (((8 : Int32)) * v1), .ref 71, .int (((8 : Int32)) * v2), .ref 64], xw_R X s_57_0 s_57_1 s_57_18 s_57_19 s_57_20 s_57_24 a_58 a_59 t_kinds t_kindLetters t_kindNames a_63 a_64 a_65 a_66 a_67 t_letters t_names a_70 a_71 a_72 a_73 a_74 a_75 l_76) else none)) (fun K => rfl) ?_
        obtain ⟨hg1022, h⟩ := xn_if h
        refine xe_pos hg1022 (xe_k ?_)
        refine xe_seg ok 1 (G := (fun K => xr_back K 64 xm_i64 xm_I64 0 0 49 [(0, .ref 59), (1, .int v1), (2, .int v2)] [] 78 true (K (47, xm_i47, xm_I47, 0, 0, 0, [(0, .ref 64), (1, .int (((8 : Int32)) * v2)), (2, .ref 71), (3, .int (((8 : Int32)) * v1)), (4, .int (t_letters v1.toNatClampNeg))], [], xw_R X s_57_0 s_57_1 s_57_18 s_57_19 s_57_20 s_57_24 a_58 a_59 t_kinds t_kindLetters t_kindNames a_63 a_64 a_65 a_66 a_67 t_letters t_names a_70 a_71 a_72 a_73 a_74 a_75 l_76)))) (fun K => rfl) ?_
        obtain ⟨q1029, hq1029, h⟩ := Option.bind_eq_some_iff.mp h
        have heq1029 := xh_rf_isSame_62_69 (l := l) (g := g) ok a_58 a_59 t_kinds t_kindLetters a_63 a_64 a_65 a_66 a_67 t_letters a_70 a_71 a_72 a_73 a_74 a_75 l_76 s_57_0 s_57_1 s_57_18 s_57_19 s_57_20 s_57_24 X t_kindNames t_names n (((8 : Int32)) * v2) (((8 : Int32)) * v1) (t_letters v1.toNatClampNeg) _ hq1029
        refine xe_call1 (ws' := xw_R X s_57_0 s_57_1 s_57_18 s_57_19 s_57_20 s_57_24 a_58 a_59 t_kinds t_kindLetters t_kindNames a_63 a_64 a_65 a_66 a_67 t_letters t_names a_70 a_71 a_72 a_73 a_74 a_75 l_76) (by decide) heq1029 (Or.inl rfl) ?_
        refine xe_seg ok 1 (G := (fun K => if q1029 = (0 : Int32) then K (64, xm_i64, xm_I64, 0, 0, 57, [(0, .ref 59), (1, .int v1), (2, .int v2)], [], xw_R X s_57_0 s_57_1 s_57_18 s_57_19 s_57_20 s_57_24 a_58 a_59 t_kinds t_kindLetters t_kindNames a_63 a_64 a_65 a_66 a_67 t_letters t_names a_70 a_71 a_72 a_73 a_74 a_75 l_76) else K (64, xm_i64, xm_I64, 0, 0, 55, [(0, .ref 59), (1, .int v1), (2, .int v2)], [], xw_R X s_57_0 s_57_1 s_57_18 s_57_19 s_57_20 s_57_24 a_58 a_59 t_kinds t_kindLetters t_kindNames a_63 a_64 a_65 a_66 a_67 t_letters t_names a_70 a_71 a_72 a_73 a_74 a_75 l_76))) (fun K => rfl) ?_
        rcases xb_if h with ⟨hc1030, h⟩ | ⟨hc1030, h⟩
        · refine xe_pos hc1030 (xe_k ?_)
          refine xe_sub [true, true, true] (lv' := [(0, .ref 59), (1, .int v1), (2, .int v2)]) rfl ?_
          have hz := xh_rf_kindOf_57_57 (l := l) (g := g) ok a_58 a_59 a_63 a_64 a_65 a_66 a_67 a_70 a_71 a_72 a_73 a_74 a_75 l_76 s_57_0 s_57_1 s_57_18 s_57_19 s_57_20 s_57_24 X t_kindLetters t_kindNames t_kinds t_letters t_names hk2 n v1 v2 _ h
          exact hz
        · refine xe_neg hc1030 (xe_k ?_)
          obtain rfl := Option.some.inj h
          refine xe_seg ok 2 (G := (fun _ => some (.inl (some (.int v2)), xw_R X s_57_0 s_57_1 s_57_18 s_57_19 s_57_20 s_57_24 a_58 a_59 t_kinds t_kindLetters t_kindNames a_63 a_64 a_65 a_66 a_67 t_letters t_names a_70 a_71 a_72 a_73 a_74 a_75 l_76))) (fun K => rfl) ?_
          exact xe_ret
      · refine xe_neg hc1021 (xe_k ?_)
        refine xe_sub [true, true, true] (lv' := [(0, .ref 59), (1, .int v1), (2, .int v2)]) rfl ?_
        have hz := xh_rf_kindOf_57_57 (l := l) (g := g) ok a_58 a_59 a_63 a_64 a_65 a_66 a_67 a_70 a_71 a_72 a_73 a_74 a_75 l_76 s_57_0 s_57_1 s_57_18 s_57_19 s_57_20 s_57_24 X t_kindLetters t_kindNames t_kinds t_letters t_names hk2 n v1 v2 _ h
        exact hz
    · refine xe_neg hc1018 (xe_k ?_)
      obtain rfl := Option.some.inj h
      refine xe_seg ok 2 (G := (fun _ => some (.inl (some (.int ((-1 : Int32)))), xw_R X s_57_0 s_57_1 s_57_18 s_57_19 s_57_20 s_57_24 a_58 a_59 t_kinds t_kindLetters t_kindNames a_63 a_64 a_65 a_66 a_67 t_letters t_names a_70 a_71 a_72 a_73 a_74 a_75 l_76))) (fun K => rfl) ?_
      exact xe_ret
set_option maxHeartbeats 400000 in
theorem xh_rf_kindOf_57 {l : Launch} {g : xr_G} (ok : xr_OK xm_P) (a_58 a_59 a_63 a_64 a_65 a_66 a_67 a_70 a_71 a_72 a_73 a_74 a_75 : Nat → Int32) (l_76 : Nat → Int64) (s_57_0 s_57_1 s_57_18 s_57_19 s_57_20 s_57_24 : Int32) (X : Nat → xr_C) (t_kindLetters : (Nat → Int32)) (t_kindNames : (Nat → Int32)) (t_kinds : (Nat → Int32)) (t_letters : (Nat → Int32)) (t_names : (Nat → Int32)) (n : Nat) : ∀ (a1 : Int32) (r : (Int32)), xf_rf_kindOf t_kindLetters t_kindNames t_kinds t_letters t_names n a1 = some r → xV xm_P l g (64, xm_i64, xm_I64, 0, 0, 0, [(0, .ref 59), (1, .int a1)], [], xw_R X s_57_0 s_57_1 s_57_18 s_57_19 s_57_20 s_57_24 a_58 a_59 t_kinds t_kindLetters t_kindNames a_63 a_64 a_65 a_66 a_67 t_letters t_names a_70 a_71 a_72 a_73 a_74 a_75 l_76) (.inl (some (.int r)), xw_R X s_57_0 s_57_1 s_57_18 s_57_19 s_57_20 s_57_24 a_58 a_59 t_kinds t_kindLetters t_kindNames a_63 a_64 a_65 a_66 a_67 t_letters t_names a_70 a_71 a_72 a_73 a_74 a_75 l_76) := by
  intro a1 r h
  unfold xf_rf_kindOf at h
  refine xe_seg ok 2 (G := (fun K => K (64, xm_i64, xm_I64, 0, 0, 2, [(0, .ref 59), (1, .int a1), (2, .int ((0 : Int32)))], [], xw_R X s_57_0 s_57_1 s_57_18 s_57_19 s_57_20 s_57_24 a_58 a_59 t_kinds t_kindLetters t_kindNames a_63 a_64 a_65 a_66 a_67 t_letters t_names a_70 a_71 a_72 a_73 a_74 a_75 l_76))) (fun K => rfl) ?_
  refine xe_k ?_
  refine xe_sub [true, true, true] (lv' := [(0, .ref 59), (1, .int a1), (2, .int ((0 : Int32)))]) rfl ?_
  have hz := xh_rf_kindOf_57_2 (l := l) (g := g) ok a_58 a_59 a_63 a_64 a_65 a_66 a_67 a_70 a_71 a_72 a_73 a_74 a_75 l_76 s_57_0 s_57_1 s_57_18 s_57_19 s_57_20 s_57_24 X t_kindLetters t_kindNames t_kinds t_letters t_names n n a1 ((0 : Int32)) _ h
  exact hz
set_option maxHeartbeats 400000 in
theorem xh_rf_told_57_90 {l : Launch} {g : xr_G} (ok : xr_OK xm_P) (a_58 a_59 a_63 a_64 a_65 a_75 : Nat → Int32) (s_57_1 s_57_18 s_57_19 s_57_20 s_57_24 : Int32) (X : Nat → xr_C) (t_items : (Nat → Int32)) (t_kindLetters : (Nat → Int32)) (t_kindNames : (Nat → Int32)) (t_kinds : (Nat → Int32)) (t_letters : (Nat → Int32)) (t_lines : (Nat → Int32)) (t_names : (Nat → Int32)) (t_numbers : (Nat → Int32)) (t_parts : (Nat → Int32)) (t_sorts : (Nat → Int32)) (t_values : (Nat → Int32)) (n : Nat) : ∀ (t_depths : (Nat → Int32)) (t_thrown : Int32) (t_ways : (Nat → Int64)) (s0 : Int32) (r : (Int32 × (Nat → Int32) × Int32 × (Nat → Int64))), xf_rf_told_90 t_items t_kindLetters t_kindNames t_kinds t_letters t_lines t_names t_numbers t_parts t_sorts t_values n t_depths t_thrown t_ways s0 = some r → xV xm_P l g (70, xm_i70, xm_I70, 0, 0, 90, [], [.int s0], xw_R X t_thrown s_57_1 s_57_18 s_57_19 s_57_20 s_57_24 a_58 a_59 t_kinds t_kindLetters t_kindNames a_63 a_64 a_65 t_lines t_numbers t_letters t_names t_parts t_sorts t_values t_items t_depths a_75 t_ways) (.inl (some (.int r.1)), xw_R X r.2.2.1 s_57_1 s_57_18 s_57_19 s_57_20 s_57_24 a_58 a_59 t_kinds t_kindLetters t_kindNames a_63 a_64 a_65 t_lines t_numbers t_letters t_names t_parts t_sorts t_values t_items r.2.1 a_75 r.2.2.2) := by
  intro t_depths t_thrown t_ways s0 r h
  unfold xf_rf_told_90 at h
  obtain rfl := Option.some.inj h
  refine xe_seg ok 1 (G := (fun _ => some (.inl (some (.int s0)), xw_R X t_thrown s_57_1 s_57_18 s_57_19 s_57_20 s_57_24 a_58 a_59 t_kinds t_kindLetters t_kindNames a_63 a_64 a_65 t_lines t_numbers t_letters t_names t_parts t_sorts t_values t_items t_depths a_75 t_ways))) (fun K => rfl) ?_
  exact xe_ret
set_option maxHeartbeats 400000 in
theorem xh_rf_referencesOf_57_7 {l : Launch} {g : xr_G} (ok : xr_OK xm_P) (a_58 a_59 a_60 a_61 a_62 a_63 a_64 a_65 a_66 a_67 a_68 a_69 a_73 a_74 a_75 : Nat → Int32) (l_76 : Nat → Int64) (s_57_0 s_57_1 s_57_18 s_57_19 s_57_20 s_57_24 : Int32) (X : Nat → xr_C) (t_parts : (Nat → Int32)) (t_sorts : (Nat → Int32)) (t_values : (Nat → Int32)) (n : Nat) : ∀ (N : Nat) (v1 : Int32) (v2 : Int32) (v3 : Int32) (r : (Int32)), xf_rf_referencesOf_7 t_parts t_sorts t_values n N v1 v2 v3 = some r → xV xm_P l g (67, xm_i67, xm_I67, 0, 0, 7, [(0, .ref 59), (1, .int v1), (2, .int v2), (3, .int v3)], [], xw_R X s_57_0 s_57_1 s_57_18 s_57_19 s_57_20 s_57_24 a_58 a_59 a_60 a_61 a_62 a_63 a_64 a_65 a_66 a_67 a_68 a_69 t_parts t_sorts t_values a_73 a_74 a_75 l_76) (.inl (some (.int r)), xw_R X s_57_0 s_57_1 s_57_18 s_57_19 s_57_20 s_57_24 a_58 a_59 a_60 a_61 a_62 a_63 a_64 a_65 a_66 a_67 a_68 a_69 t_parts t_sorts t_values a_73 a_74 a_75 l_76) := by
  intro N
  induction N with
  | zero => intro v1 v2 v3 r h; cases h
  | succ N hk7 =>
    intro v1 v2 v3 r h
    refine xe_seg ok 8 (G := (fun K => if xr_in v1 120 = true then K (67, xm_i67, xm_I67, 0, 0, 18, [(0, .ref 59), (1, .int v1), (2, .int v2), (3, .int v3)], [.int (t_parts v1.toNatClampNeg), .int (((8 : Int32)) * v1), .int v3], xw_R X s_57_0 s_57_1 s_57_18 s_57_19 s_57_20 s_57_24 a_58 a_59 a_60 a_61 a_62 a_63 a_64 a_65 a_66 a_67 a_68 a_69 t_parts t_sorts t_values a_73 a_74 a_75 l_76) else none)) (fun K => rfl) ?_
    obtain ⟨hg1035, h⟩ := xn_if h
    refine xe_pos hg1035 (xe_k ?_)
    refine xe_seg ok 2 (G := (fun K => if v3 < ((((8 : Int32)) * v1) + (t_parts v1.toNatClampNeg)) then K (67, xm_i67, xm_I67, 0, 0, 22, [(0, .ref 59), (1, .int v1), (2, .int v2), (3, .int v3)], [], xw_R X s_57_0 s_57_1 s_57_18 s_57_19 s_57_20 s_57_24 a_58 a_59 a_60 a_61 a_62 a_63 a_64 a_65 a_66 a_67 a_68 a_69 t_parts t_sorts t_values a_73 a_74 a_75 l_76) else K (67, xm_i67, xm_I67, 0, 0, 36, [(0, .ref 59), (1, .int v1), (2, .int v2), (3, .int v3)], [], xw_R X s_57_0 s_57_1 s_57_18 s_57_19 s_57_20 s_57_24 a_58 a_59 a_60 a_61 a_62 a_63 a_64 a_65 a_66 a_67 a_68 a_69 t_parts t_sorts t_values a_73 a_74 a_75 l_76))) (fun K => rfl) ?_
    rcases xb_if h with ⟨hc1036, h⟩ | ⟨hc1036, h⟩
    · refine xe_pos hc1036 (xe_k ?_)
      refine xe_seg ok 4 (G := (fun K => xr_back K 67 xm_i67 xm_I67 0 0 25 [(0, .ref 59), (1, .int v1), (2, .int v2), (3, .int v3)] [.int v2] 78 true (K (65, xm_i65, xm_I65, 0, 0, 0, [(0, .ref 59), (1, .int v3)], [], xw_R X s_57_0 s_57_1 s_57_18 s_57_19 s_57_20 s_57_24 a_58 a_59 a_60 a_61 a_62 a_63 a_64 a_65 a_66 a_67 a_68 a_69 t_parts t_sorts t_values a_73 a_74 a_75 l_76)))) (fun K => rfl) ?_
      obtain ⟨q1037, hq1037, h⟩ := Option.bind_eq_some_iff.mp h
      have heq1037 := xh_rf_references_57 (l := l) (g := g) ok a_58 a_59 a_60 a_61 a_62 a_63 a_64 a_65 a_66 a_67 a_68 a_69 t_parts a_73 a_74 a_75 l_76 s_57_0 s_57_1 s_57_18 s_57_19 s_57_20 s_57_24 X t_sorts t_values v3 _ hq1037
      refine xe_call1 (ws' := xw_R X s_57_0 s_57_1 s_57_18 s_57_19 s_57_20 s_57_24 a_58 a_59 a_60 a_61 a_62 a_63 a_64 a_65 a_66 a_67 a_68 a_69 t_parts t_sorts t_values a_73 a_74 a_75 l_76) (by decide) heq1037 (Or.inl rfl) ?_
      refine xe_seg ok 4 (G := (fun K => K (67, xm_i67, xm_I67, 0, 0, 7, [(0, .ref 59), (1, .int v1), (2, .int (v2 + q1037)), (3, .int (v3 + (1 : Int32)))], [], xw_R X s_57_0 s_57_1 s_57_18 s_57_19 s_57_20 s_57_24 a_58 a_59 a_60 a_61 a_62 a_63 a_64 a_65 a_66 a_67 a_68 a_69 t_parts t_sorts t_values a_73 a_74 a_75 l_76))) (fun K => rfl) ?_
      refine xe_k ?_
      refine xe_sub [true, true, true, true] (lv' := [(0, .ref 59), (1, .int v1), (2, .int (v2 + q1037)), (3, .int (v3 + (1 : Int32)))]) rfl ?_
      have hz := hk7 v1 (v2 + q1037) (v3 + (1 : Int32)) _ h
      exact hz
    · refine xe_neg hc1036 (xe_k ?_)
      obtain rfl := Option.some.inj h
      refine xe_seg ok 2 (G := (fun _ => some (.inl (some (.int v2)), xw_R X s_57_0 s_57_1 s_57_18 s_57_19 s_57_20 s_57_24 a_58 a_59 a_60 a_61 a_62 a_63 a_64 a_65 a_66 a_67 a_68 a_69 t_parts t_sorts t_values a_73 a_74 a_75 l_76))) (fun K => rfl) ?_
      exact xe_ret
set_option maxHeartbeats 400000 in
theorem xh_rf_referencesOf_57 {l : Launch} {g : xr_G} (ok : xr_OK xm_P) (a_58 a_59 a_60 a_61 a_62 a_63 a_64 a_65 a_66 a_67 a_68 a_69 a_73 a_74 a_75 : Nat → Int32) (l_76 : Nat → Int64) (s_57_0 s_57_1 s_57_18 s_57_19 s_57_20 s_57_24 : Int32) (X : Nat → xr_C) (t_parts : (Nat → Int32)) (t_sorts : (Nat → Int32)) (t_values : (Nat → Int32)) (n : Nat) : ∀ (a1 : Int32) (r : (Int32)), xf_rf_referencesOf t_parts t_sorts t_values n a1 = some r → xV xm_P l g (67, xm_i67, xm_I67, 0, 0, 0, [(0, .ref 59), (1, .int a1)], [], xw_R X s_57_0 s_57_1 s_57_18 s_57_19 s_57_20 s_57_24 a_58 a_59 a_60 a_61 a_62 a_63 a_64 a_65 a_66 a_67 a_68 a_69 t_parts t_sorts t_values a_73 a_74 a_75 l_76) (.inl (some (.int r)), xw_R X s_57_0 s_57_1 s_57_18 s_57_19 s_57_20 s_57_24 a_58 a_59 a_60 a_61 a_62 a_63 a_64 a_65 a_66 a_67 a_68 a_69 t_parts t_sorts t_values a_73 a_74 a_75 l_76) := by
  intro a1 r h
  unfold xf_rf_referencesOf at h
  refine xe_seg ok 6 (G := (fun K => K (67, xm_i67, xm_I67, 0, 0, 7, [(0, .ref 59), (1, .int a1), (2, .int ((0 : Int32))), (3, .int (((8 : Int32)) * a1))], [], xw_R X s_57_0 s_57_1 s_57_18 s_57_19 s_57_20 s_57_24 a_58 a_59 a_60 a_61 a_62 a_63 a_64 a_65 a_66 a_67 a_68 a_69 t_parts t_sorts t_values a_73 a_74 a_75 l_76))) (fun K => rfl) ?_
  refine xe_k ?_
  refine xe_sub [true, true, true, true] (lv' := [(0, .ref 59), (1, .int a1), (2, .int ((0 : Int32))), (3, .int (((8 : Int32)) * a1))]) rfl ?_
  have hz := xh_rf_referencesOf_57_7 (l := l) (g := g) ok a_58 a_59 a_60 a_61 a_62 a_63 a_64 a_65 a_66 a_67 a_68 a_69 a_73 a_74 a_75 l_76 s_57_0 s_57_1 s_57_18 s_57_19 s_57_20 s_57_24 X t_parts t_sorts t_values n n a1 ((0 : Int32)) (((8 : Int32)) * a1) _ h
  exact hz
set_option maxHeartbeats 400000 in
theorem xh_rf_told_57_32 {l : Launch} {g : xr_G} (ok : xr_OK xm_P) (a_58 a_59 a_63 a_64 a_65 a_75 : Nat → Int32) (s_57_1 s_57_18 s_57_19 s_57_20 s_57_24 : Int32) (X : Nat → xr_C) (t_items : (Nat → Int32)) (t_kindLetters : (Nat → Int32)) (t_kindNames : (Nat → Int32)) (t_kinds : (Nat → Int32)) (t_letters : (Nat → Int32)) (t_lines : (Nat → Int32)) (t_names : (Nat → Int32)) (t_numbers : (Nat → Int32)) (t_parts : (Nat → Int32)) (t_sorts : (Nat → Int32)) (t_values : (Nat → Int32)) (n : Nat) : ∀ (t_depths : (Nat → Int32)) (t_thrown : Int32) (t_ways : (Nat → Int64)) (v2 : Int32) (v3 : Int32) (s1 : Int32) (r : (Int32 × (Nat → Int32) × Int32 × (Nat → Int64))), xf_rf_told_32 t_items t_kindLetters t_kindNames t_kinds t_letters t_lines t_names t_numbers t_parts t_sorts t_values n t_depths t_thrown t_ways v2 v3 s1 = some r → xV xm_P l g (70, xm_i70, xm_I70, 0, 0, 32, [(0, .ref 59), (2, .int v2), (3, .int v3)], [.int s1, .ref 59], xw_R X t_thrown s_57_1 s_57_18 s_57_19 s_57_20 s_57_24 a_58 a_59 t_kinds t_kindLetters t_kindNames a_63 a_64 a_65 t_lines t_numbers t_letters t_names t_parts t_sorts t_values t_items t_depths a_75 t_ways) (.inl (some (.int r.1)), xw_R X r.2.2.1 s_57_1 s_57_18 s_57_19 s_57_20 s_57_24 a_58 a_59 t_kinds t_kindLetters t_kindNames a_63 a_64 a_65 t_lines t_numbers t_letters t_names t_parts t_sorts t_values t_items r.2.1 a_75 r.2.2.2) := by
  intro t_depths t_thrown t_ways v2 v3 s1 r h
  unfold xf_rf_told_32 at h
  refine xe_seg ok 2 (G := (fun K => xr_back K 70 xm_i70 xm_I70 0 0 33 [(0, .ref 59), (2, .int v2), (3, .int v3)] [] 78 true (K (32, xm_i32, xm_I32, 0, 0, 0, [(0, .ref 59), (1, .int s1), (2, .int ((1 : Int32)))], [], xw_R X t_thrown s_57_1 s_57_18 s_57_19 s_57_20 s_57_24 a_58 a_59 t_kinds t_kindLetters t_kindNames a_63 a_64 a_65 t_lines t_numbers t_letters t_names t_parts t_sorts t_values t_items t_depths a_75 t_ways)))) (fun K => rfl) ?_
  obtain ⟨q977, hq977, h⟩ := Option.bind_eq_some_iff.mp h
  have heq977 := xh_rf_fails_57 (l := l) (g := g) ok a_58 a_59 t_kinds t_kindLetters t_kindNames a_63 a_64 a_65 t_lines t_numbers t_letters t_names t_parts t_sorts t_values t_items t_depths a_75 t_ways s_57_1 s_57_18 s_57_19 s_57_20 s_57_24 X t_thrown s1 ((1 : Int32)) _ hq977
  refine xe_call1 (ws' := xw_R X q977.2 s_57_1 s_57_18 s_57_19 s_57_20 s_57_24 a_58 a_59 t_kinds t_kindLetters t_kindNames a_63 a_64 a_65 t_lines t_numbers t_letters t_names t_parts t_sorts t_values t_items t_depths a_75 t_ways) (by decide) heq977 (Or.inl rfl) ?_
  refine xe_seg ok 1 (G := (fun K => if q977.1 = (0 : Int32) then K (70, xm_i70, xm_I70, 0, 0, 41, [(0, .ref 59), (2, .int v2), (3, .int v3)], [], xw_R X q977.2 s_57_1 s_57_18 s_57_19 s_57_20 s_57_24 a_58 a_59 t_kinds t_kindLetters t_kindNames a_63 a_64 a_65 t_lines t_numbers t_letters t_names t_parts t_sorts t_values t_items t_depths a_75 t_ways) else K (70, xm_i70, xm_I70, 0, 0, 39, [(0, .ref 59), (2, .int v2), (3, .int v3)], [], xw_R X q977.2 s_57_1 s_57_18 s_57_19 s_57_20 s_57_24 a_58 a_59 t_kinds t_kindLetters t_kindNames a_63 a_64 a_65 t_lines t_numbers t_letters t_names t_parts t_sorts t_values t_items t_depths a_75 t_ways))) (fun K => rfl) ?_
  rcases xb_if h with ⟨hc978, h⟩ | ⟨hc978, h⟩
  · refine xe_pos hc978 (xe_k ?_)
    refine xe_seg ok 2 (G := (fun K => xr_back K 70 xm_i70 xm_I70 0 0 42 [(0, .ref 59), (2, .int v2), (3, .int v3)] [] 78 true (K (69, xm_i69, xm_I69, 0, 0, 0, [(0, .ref 59)], [], xw_R X q977.2 s_57_1 s_57_18 s_57_19 s_57_20 s_57_24 a_58 a_59 t_kinds t_kindLetters t_kindNames a_63 a_64 a_65 t_lines t_numbers t_letters t_names t_parts t_sorts t_values t_items t_depths a_75 t_ways)))) (fun K => rfl) ?_
    obtain ⟨q1016, hq1016, h⟩ := Option.bind_eq_some_iff.mp h
    have heq1016 := xh_rf_findDepths_57 (l := l) (g := g) ok a_58 a_59 t_kinds t_kindLetters t_kindNames a_63 a_64 a_65 t_letters t_names a_75 q977.2 s_57_1 s_57_18 s_57_19 s_57_20 s_57_24 X t_items t_lines t_numbers t_parts t_sorts t_values n t_depths t_ways _ hq1016
    refine xe_call0 (ws' := xw_R X q977.2 s_57_1 s_57_18 s_57_19 s_57_20 s_57_24 a_58 a_59 t_kinds t_kindLetters t_kindNames a_63 a_64 a_65 t_lines t_numbers t_letters t_names t_parts t_sorts t_values t_items q1016.2.1 a_75 q1016.2.2) (by decide) heq1016 (Or.inl rfl) ?_
    refine xe_seg ok 2 (G := (fun K => if v2 = (0 : Int32) then K (70, xm_i70, xm_I70, 0, 0, 49, [(0, .ref 59), (2, .int v2), (3, .int v3)], [], xw_R X q977.2 s_57_1 s_57_18 s_57_19 s_57_20 s_57_24 a_58 a_59 t_kinds t_kindLetters t_kindNames a_63 a_64 a_65 t_lines t_numbers t_letters t_names t_parts t_sorts t_values t_items q1016.2.1 a_75 q1016.2.2) else K (70, xm_i70, xm_I70, 0, 0, 57, [(0, .ref 59), (2, .int v2), (3, .int v3)], [], xw_R X q977.2 s_57_1 s_57_18 s_57_19 s_57_20 s_57_24 a_58 a_59 t_kinds t_kindLetters t_kindNames a_63 a_64 a_65 t_lines t_numbers t_letters t_names t_parts t_sorts t_values t_items q1016.2.1 a_75 q1016.2.2))) (fun K => rfl) ?_
    rcases xb_if h with ⟨hc1017, h⟩ | ⟨hc1017, h⟩
    · refine xe_pos hc1017 (xe_k ?_)
      refine xe_seg ok 3 (G := (fun K => xr_back K 70 xm_i70 xm_I70 0 0 51 [(0, .ref 59), (2, .int v2), (3, .int v3)] [] 78 true (K (64, xm_i64, xm_I64, 0, 0, 0, [(0, .ref 59), (1, .int v3)], [], xw_R X q977.2 s_57_1 s_57_18 s_57_19 s_57_20 s_57_24 a_58 a_59 t_kinds t_kindLetters t_kindNames a_63 a_64 a_65 t_lines t_numbers t_letters t_names t_parts t_sorts t_values t_items q1016.2.1 a_75 q1016.2.2)))) (fun K => rfl) ?_
      obtain ⟨q1031, hq1031, h⟩ := Option.bind_eq_some_iff.mp h
      have heq1031 := xh_rf_kindOf_57 (l := l) (g := g) ok a_58 a_59 a_63 a_64 a_65 t_lines t_numbers t_parts t_sorts t_values t_items q1016.2.1 a_75 q1016.2.2 q977.2 s_57_1 s_57_18 s_57_19 s_57_20 s_57_24 X t_kindLetters t_kindNames t_kinds t_letters t_names n v3 _ hq1031
      refine xe_call1 (ws' := xw_R X q977.2 s_57_1 s_57_18 s_57_19 s_57_20 s_57_24 a_58 a_59 t_kinds t_kindLetters t_kindNames a_63 a_64 a_65 t_lines t_numbers t_letters t_names t_parts t_sorts t_values t_items q1016.2.1 a_75 q1016.2.2) (by decide) heq1031 (Or.inl rfl) ?_
      refine xe_seg ok 1 (G := (fun K => K (70, xm_i70, xm_I70, 0, 0, 90, [(0, .ref 59), (2, .int v2), (3, .int v3)], [.int q1031], xw_R X q977.2 s_57_1 s_57_18 s_57_19 s_57_20 s_57_24 a_58 a_59 t_kinds t_kindLetters t_kindNames a_63 a_64 a_65 t_lines t_numbers t_letters t_names t_parts t_sorts t_values t_items q1016.2.1 a_75 q1016.2.2))) (fun K => rfl) ?_
      refine xe_k ?_
      refine xe_sub [false, false, false] (lv' := []) rfl ?_
      have hz := xh_rf_told_57_90 (l := l) (g := g) ok a_58 a_59 a_63 a_64 a_65 a_75 s_57_1 s_57_18 s_57_19 s_57_20 s_57_24 X t_items t_kindLetters t_kindNames t_kinds t_letters t_lines t_names t_numbers t_parts t_sorts t_values n q1016.2.1 q977.2 q1016.2.2 q1031 _ h
      exact hz
    · refine xe_neg hc1017 (xe_k ?_)
      refine xe_seg ok 3 (G := (fun K => if v2 = ((1 : Int32)) then K (70, xm_i70, xm_I70, 0, 0, 62, [(0, .ref 59), (2, .int v2), (3, .int v3)], [], xw_R X q977.2 s_57_1 s_57_18 s_57_19 s_57_20 s_57_24 a_58 a_59 t_kinds t_kindLetters t_kindNames a_63 a_64 a_65 t_lines t_numbers t_letters t_names t_parts t_sorts t_values t_items q1016.2.1 a_75 q1016.2.2) else K (70, xm_i70, xm_I70, 0, 0, 71, [(0, .ref 59), (2, .int v2), (3, .int v3)], [], xw_R X q977.2 s_57_1 s_57_18 s_57_19 s_57_20 s_57_24 a_58 a_59 t_kinds t_kindLetters t_kindNames a_63 a_64 a_65 t_lines t_numbers t_letters t_names t_parts t_sorts t_values t_items q1016.2.1 a_75 q1016.2.2))) (fun K => rfl) ?_
      rcases xb_if h with ⟨hc1032, h⟩ | ⟨hc1032, h⟩
      · refine xe_pos hc1032 (xe_k ?_)
        refine xe_seg ok 4 (G := (fun K => if xr_in v3 120 = true then K (70, xm_i70, xm_I70, 0, 0, 68, [(0, .ref 59), (2, .int v2), (3, .int v3)], [.int (t_parts v3.toNatClampNeg)], xw_R X q977.2 s_57_1 s_57_18 s_57_19 s_57_20 s_57_24 a_58 a_59 t_kinds t_kindLetters t_kindNames a_63 a_64 a_65 t_lines t_numbers t_letters t_names t_parts t_sorts t_values t_items q1016.2.1 a_75 q1016.2.2) else none)) (fun K => rfl) ?_
        obtain ⟨hg1033, h⟩ := xn_if h
        refine xe_pos hg1033 (xe_k ?_)
        refine xe_seg ok 1 (G := (fun K => K (70, xm_i70, xm_I70, 0, 0, 90, [(0, .ref 59), (2, .int v2), (3, .int v3)], [.int (t_parts v3.toNatClampNeg)], xw_R X q977.2 s_57_1 s_57_18 s_57_19 s_57_20 s_57_24 a_58 a_59 t_kinds t_kindLetters t_kindNames a_63 a_64 a_65 t_lines t_numbers t_letters t_names t_parts t_sorts t_values t_items q1016.2.1 a_75 q1016.2.2))) (fun K => rfl) ?_
        refine xe_k ?_
        refine xe_sub [false, false, false] (lv' := []) rfl ?_
        have hz := xh_rf_told_57_90 (l := l) (g := g) ok a_58 a_59 a_63 a_64 a_65 a_75 s_57_1 s_57_18 s_57_19 s_57_20 s_57_24 X t_items t_kindLetters t_kindNames t_kinds t_letters t_lines t_names t_numbers t_parts t_sorts t_values n q1016.2.1 q977.2 q1016.2.2 (t_parts v3.toNatClampNeg) _ h
        exact hz
      · refine xe_neg hc1032 (xe_k ?_)
        refine xe_seg ok 3 (G := (fun K => if v2 = ((2 : Int32)) then K (70, xm_i70, xm_I70, 0, 0, 76, [(0, .ref 59), (2, .int v2), (3, .int v3)], [], xw_R X q977.2 s_57_1 s_57_18 s_57_19 s_57_20 s_57_24 a_58 a_59 t_kinds t_kindLetters t_kindNames a_63 a_64 a_65 t_lines t_numbers t_letters t_names t_parts t_sorts t_values t_items q1016.2.1 a_75 q1016.2.2) else K (70, xm_i70, xm_I70, 0, 0, 84, [(0, .ref 59), (2, .int v2), (3, .int v3)], [], xw_R X q977.2 s_57_1 s_57_18 s_57_19 s_57_20 s_57_24 a_58 a_59 t_kinds t_kindLetters t_kindNames a_63 a_64 a_65 t_lines t_numbers t_letters t_names t_parts t_sorts t_values t_items q1016.2.1 a_75 q1016.2.2))) (fun K => rfl) ?_
        rcases xb_if h with ⟨hc1034, h⟩ | ⟨hc1034, h⟩
        · refine xe_pos hc1034 (xe_k ?_)
          refine xe_seg ok 3 (G := (fun K => xr_back K 70 xm_i70 xm_I70 0 0 78 [(0, .ref 59), (2, .int v2), (3, .int v3)] [] 78 true (K (67, xm_i67, xm_I67, 0, 0, 0, [(0, .ref 59), (1, .int v3)], [], xw_R X q977.2 s_57_1 s_57_18 s_57_19 s_57_20 s_57_24 a_58 a_59 t_kinds t_kindLetters t_kindNames a_63 a_64 a_65 t_lines t_numbers t_letters t_names t_parts t_sorts t_values t_items q1016.2.1 a_75 q1016.2.2)))) (fun K => rfl) ?_
          obtain ⟨q1038, hq1038, h⟩ := Option.bind_eq_some_iff.mp h
          have heq1038 := xh_rf_referencesOf_57 (l := l) (g := g) ok a_58 a_59 t_kinds t_kindLetters t_kindNames a_63 a_64 a_65 t_lines t_numbers t_letters t_names t_items q1016.2.1 a_75 q1016.2.2 q977.2 s_57_1 s_57_18 s_57_19 s_57_20 s_57_24 X t_parts t_sorts t_values n v3 _ hq1038
          refine xe_call1 (ws' := xw_R X q977.2 s_57_1 s_57_18 s_57_19 s_57_20 s_57_24 a_58 a_59 t_kinds t_kindLetters t_kindNames a_63 a_64 a_65 t_lines t_numbers t_letters t_names t_parts t_sorts t_values t_items q1016.2.1 a_75 q1016.2.2) (by decide) heq1038 (Or.inl rfl) ?_
          refine xe_seg ok 1 (G := (fun K => K (70, xm_i70, xm_I70, 0, 0, 90, [(0, .ref 59), (2, .int v2), (3, .int v3)], [.int q1038], xw_R X q977.2 s_57_1 s_57_18 s_57_19 s_57_20 s_57_24 a_58 a_59 t_kinds t_kindLetters t_kindNames a_63 a_64 a_65 t_lines t_numbers t_letters t_names t_parts t_sorts t_values t_items q1016.2.1 a_75 q1016.2.2))) (fun K => rfl) ?_
          refine xe_k ?_
          refine xe_sub [false, false, false] (lv' := []) rfl ?_
          have hz := xh_rf_told_57_90 (l := l) (g := g) ok a_58 a_59 a_63 a_64 a_65 a_75 s_57_1 s_57_18 s_57_19 s_57_20 s_57_24 X t_items t_kindLetters t_kindNames t_kinds t_letters t_lines t_names t_numbers t_parts t_sorts t_values n q1016.2.1 q977.2 q1016.2.2 q1038 _ h
          exact hz
        · refine xe_neg hc1034 (xe_k ?_)
          refine xe_seg ok 4 (G := (fun K => if xr_in v3 40 = true then K (70, xm_i70, xm_I70, 0, 0, 90, [(0, .ref 59), (2, .int v2), (3, .int v3)], [.int (q1016.2.1 v3.toNatClampNeg)], xw_R X q977.2 s_57_1 s_57_18 s_57_19 s_57_20 s_57_24 a_58 a_59 t_kinds t_kindLetters t_kindNames a_63 a_64 a_65 t_lines t_numbers t_letters t_names t_parts t_sorts t_values t_items q1016.2.1 a_75 q1016.2.2) else none)) (fun K => rfl) ?_
          obtain ⟨hg1039, h⟩ := xn_if h
          refine xe_pos hg1039 (xe_k ?_)
          refine xe_sub [false, false, false] (lv' := []) rfl ?_
          have hz := xh_rf_told_57_90 (l := l) (g := g) ok a_58 a_59 a_63 a_64 a_65 a_75 s_57_1 s_57_18 s_57_19 s_57_20 s_57_24 X t_items t_kindLetters t_kindNames t_kinds t_letters t_lines t_names t_numbers t_parts t_sorts t_values n q1016.2.1 q977.2 q1016.2.2 (q1016.2.1 v3.toNatClampNeg) _ h
          exact hz
  · refine xe_neg hc978 (xe_k ?_)
    obtain rfl := Option.some.inj h
    refine xe_seg ok 2 (G := (fun _ => some (.inl (some (.int ((0 : Int32)))), xw_R X q977.2 s_57_1 s_57_18 s_57_19 s_57_20 s_57_24 a_58 a_59 t_kinds t_kindLetters t_kindNames a_63 a_64 a_65 t_lines t_numbers t_letters t_names t_parts t_sorts t_values t_items t_depths a_75 t_ways))) (fun K => rfl) ?_
    exact xe_ret
