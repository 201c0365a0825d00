set_option maxHeartbeats 400000 in
theorem xh_rf_schema_57_73 {l : Launch} {g : xr_G} (ok : xr_OK xm_P) (a_59 a_66 a_67 a_68 a_69 a_70 a_71 a_72 a_73 a_74 a_75 : Nat → Int32) (l_76 : Nat → Int64) (s_57_24 : Int32) (X : Nat → xr_C) (t_text : (Nat → Int32)) (n : Nat) : ∀ (N : Nat) (t_at : Int32) (t_fault : Int32) (t_from : Int32) (t_kindLetters : (Nat → Int32)) (t_kindMay : (Nat → Int32)) (t_kindNames : (Nat → Int32)) (t_kindParts : (Nat → Int32)) (t_kindSorts : (Nat → Int32)) (t_kinds : (Nat → Int32)) (t_size : Int32) (t_thrown : Int32) (v1 : Int32) (r : (Int32 × Int32 × Int32 × Int32 × (Nat → Int32) × (Nat → Int32) × (Nat → Int32) × (Nat → Int32) × (Nat → Int32) × (Nat → Int32) × Int32 × Int32)), xf_rf_schema_73 t_text n N t_at t_fault t_from t_kindLetters t_kindMay t_kindNames t_kindParts t_kindSorts t_kinds t_size t_thrown v1 = some r → xV xm_P l g (49, xm_i49, xm_I49, 0, 0, 73, [(0, .ref 59), (1, .int v1)], [], xw_R X t_thrown t_size t_at t_fault t_from s_57_24 t_text a_59 t_kinds t_kindLetters t_kindNames t_kindParts t_kindSorts t_kindMay a_66 a_67 a_68 a_69 a_70 a_71 a_72 a_73 a_74 a_75 l_76) (.inl (some (.int r.1)), xw_R X r.2.2.2.2.2.2.2.2.2.2.2 r.2.2.2.2.2.2.2.2.2.2.1 r.2.1 r.2.2.1 r.2.2.2.1 s_57_24 t_text a_59 r.2.2.2.2.2.2.2.2.2.1 r.2.2.2.2.1 r.2.2.2.2.2.2.1 r.2.2.2.2.2.2.2.1 r.2.2.2.2.2.2.2.2.1 r.2.2.2.2.2.1 a_66 a_67 a_68 a_69 a_70 a_71 a_72 a_73 a_74 a_75 l_76) := by
  intro N
  induction N with
  | zero => intro t_at t_fault t_from t_kindLetters t_kindMay t_kindNames t_kindParts t_kindSorts t_kinds t_size t_thrown v1 r h; cases h
  | succ N hk73 =>
    intro t_at t_fault t_from t_kindLetters t_kindMay t_kindNames t_kindParts t_kindSorts t_kinds t_size t_thrown v1 r h
    refine xe_seg ok 3 (G := (fun K => if v1 < ((12 : Int32)) then K (49, xm_i49, xm_I49, 0, 0, 79, [(0, .ref 59), (1, .int v1)], [], xw_R X t_thrown t_size t_at t_fault t_from s_57_24 t_text a_59 t_kinds t_kindLetters t_kindNames t_kindParts t_kindSorts t_kindMay a_66 a_67 a_68 a_69 a_70 a_71 a_72 a_73 a_74 a_75 l_76) else K (49, xm_i49, xm_I49, 0, 0, 204, [(0, .ref 59), (1, .int v1)], [], xw_R X t_thrown t_size t_at t_fault t_from s_57_24 t_text a_59 t_kinds t_kindLetters t_kindNames t_kindParts t_kindSorts t_kindMay a_66 a_67 a_68 a_69 a_70 a_71 a_72 a_73 a_74 a_75 l_76))) (fun K => rfl) ?_
    rcases xb_if h with ⟨hc610, h⟩ | ⟨hc610, h⟩
    · refine xe_pos hc610 (xe_k ?_)
      refine xe_seg ok 9 (G := (fun K => if xr_in (((12 : Int32)) + v1) 24 = true then K (49, xm_i49, xm_I49, 0, 0, 93, [(0, .ref 59), (1, .int v1)], [.int (t_kindLetters (((12 : Int32)) + v1).toNatClampNeg), .int v1, .ref 63], xw_R X t_thrown t_size t_at t_fault t_from s_57_24 t_text a_59 t_kinds t_kindLetters t_kindNames t_kindParts t_kindSorts t_kindMay a_66 a_67 a_68 a_69 a_70 a_71 a_72 a_73 a_74 a_75 l_76) else none)) (fun K => rfl) ?_
      obtain ⟨hg611, h⟩ := xn_if h
      refine xe_pos hg611 (xe_k ?_)
      refine xe_seg ok 1 (G := (fun K => if xr_in v1 24 = true then K (49, xm_i49, xm_I49, 0, 0, 94, [(0, .ref 59), (1, .int v1)], [], xw_R X t_thrown t_size t_at t_fault t_from s_57_24 t_text a_59 t_kinds (upd t_kindLetters v1.toNatClampNeg ((t_kindLetters (((12 : Int32)) + v1).toNatClampNeg))) t_kindNames t_kindParts t_kindSorts t_kindMay a_66 a_67 a_68 a_69 a_70 a_71 a_72 a_73 a_74 a_75 l_76) else none)) (fun K => rfl) ?_
      obtain ⟨hg612, h⟩ := xn_if h
      refine xe_pos hg612 (xe_k ?_)
      refine xe_seg ok 9 (G := (fun K => if xr_in (((12 : Int32)) + v1) 24 = true then K (49, xm_i49, xm_I49, 0, 0, 108, [(0, .ref 59), (1, .int v1)], [.int (t_kindParts (((12 : Int32)) + v1).toNatClampNeg), .int v1, .ref 65], xw_R X t_thrown t_size t_at t_fault t_from s_57_24 t_text a_59 t_kinds (upd t_kindLetters v1.toNatClampNeg ((t_kindLetters (((12 : Int32)) + v1).toNatClampNeg))) t_kindNames t_kindParts t_kindSorts t_kindMay a_66 a_67 a_68 a_69 a_70 a_71 a_72 a_73 a_74 a_75 l_76) else none)) (fun K => rfl) ?_
      obtain ⟨hg613, h⟩ := xn_if h
      refine xe_pos hg613 (xe_k ?_)
      refine xe_seg ok 1 (G := (fun K => if xr_in v1 24 = true then K (49, xm_i49, xm_I49, 0, 0, 109, [(0, .ref 59), (1, .int v1)], [], xw_R X t_thrown t_size t_at t_fault t_from s_57_24 t_text a_59 t_kinds (upd t_kindLetters v1.toNatClampNeg ((t_kindLetters (((12 : Int32)) + v1).toNatClampNeg))) t_kindNames (upd t_kindParts v1.toNatClampNeg ((t_kindParts (((12 : Int32)) + v1).toNatClampNeg))) t_kindSorts t_kindMay a_66 a_67 a_68 a_69 a_70 a_71 a_72 a_73 a_74 a_75 l_76) else none)) (fun K => rfl) ?_
      obtain ⟨hg614, h⟩ := xn_if h
      refine xe_pos hg614 (xe_k ?_)
      refine xe_seg ok 2 (G := (fun K => K (49, xm_i49, xm_I49, 0, 0, 111, [(0, .ref 59), (1, .int v1), (2, .int ((0 : Int32)))], [], xw_R X t_thrown t_size t_at t_fault t_from s_57_24 t_text a_59 t_kinds (upd t_kindLetters v1.toNatClampNeg ((t_kindLetters (((12 : Int32)) + v1).toNatClampNeg))) t_kindNames (upd t_kindParts v1.toNatClampNeg ((t_kindParts (((12 : Int32)) + v1).toNatClampNeg))) t_kindSorts t_kindMay a_66 a_67 a_68 a_69 a_70 a_71 a_72 a_73 a_74 a_75 l_76))) (fun K => rfl) ?_
      refine xe_k ?_
      refine xe_sub [true, true, true] (lv' := [(0, .ref 59), (1, .int v1), (2, .int ((0 : Int32)))]) rfl ?_
      have hz := xh_rf_schema_57_111 (l := l) (g := g) ok a_59 a_66 a_67 a_68 a_69 a_70 a_71 a_72 a_73 a_74 a_75 l_76 s_57_24 X t_text hk73 n n t_at t_fault t_from (upd t_kindLetters v1.toNatClampNeg ((t_kindLetters (((12 : Int32)) + v1).toNatClampNeg))) t_kindMay t_kindNames (upd t_kindParts v1.toNatClampNeg ((t_kindParts (((12 : Int32)) + v1).toNatClampNeg))) t_kindSorts t_kinds t_size t_thrown v1 ((0 : Int32)) _ h
      exact hz
    · refine xe_neg hc610 (xe_k ?_)
      refine xe_seg ok 7 (G := (fun K => if xr_in ((0 : Int32)) 2 = true then K (49, xm_i49, xm_I49, 0, 0, 215, [(0, .ref 59), (1, .int v1)], [.int (t_kinds ((0 : Int32)).toNatClampNeg)], xw_R X t_thrown ((0 : Int32)) t_at t_fault t_from s_57_24 t_text a_59 t_kinds t_kindLetters t_kindNames t_kindParts t_kindSorts t_kindMay a_66 a_67 a_68 a_69 a_70 a_71 a_72 a_73 a_74 a_75 l_76) else none)) (fun K => rfl) ?_
      refine xe_pos (by decide) (xe_k ?_)
      obtain rfl := Option.some.inj h
      refine xe_seg ok 1 (G := (fun _ => some (.inl (some (.int (t_kinds ((0 : Int32)).toNatClampNeg))), xw_R X t_thrown ((0 : Int32)) t_at t_fault t_from s_57_24 t_text a_59 t_kinds t_kindLetters t_kindNames t_kindParts t_kindSorts t_kindMay a_66 a_67 a_68 a_69 a_70 a_71 a_72 a_73 a_74 a_75 l_76))) (fun K => rfl) ?_
      exact xe_ret
set_option maxHeartbeats 400000 in
theorem xh_rf_schema_57_44 {l : Launch} {g : xr_G} (ok : xr_OK xm_P) (a_59 a_66 a_67 a_68 a_69 a_70 a_71 a_72 a_73 a_74 a_75 : Nat → Int32) (l_76 : Nat → Int64) (s_57_24 : Int32) (X : Nat → xr_C) (t_text : (Nat → Int32)) (n : Nat) : ∀ (t_at : Int32) (t_fault : Int32) (t_from : Int32) (t_kindLetters : (Nat → Int32)) (t_kindMay : (Nat → Int32)) (t_kindNames : (Nat → Int32)) (t_kindParts : (Nat → Int32)) (t_kindSorts : (Nat → Int32)) (t_kinds : (Nat → Int32)) (t_size : Int32) (t_thrown : Int32) (r : (Int32 × Int32 × Int32 × Int32 × (Nat → Int32) × (Nat → Int32) × (Nat → Int32) × (Nat → Int32) × (Nat → Int32) × (Nat → Int32) × Int32 × Int32)), xf_rf_schema_44 t_text n t_at t_fault t_from t_kindLetters t_kindMay t_kindNames t_kindParts t_kindSorts t_kinds t_size t_thrown = some r → xV xm_P l g (49, xm_i49, xm_I49, 0, 0, 44, [(0, .ref 59)], [], xw_R X t_thrown t_size t_at t_fault t_from s_57_24 t_text a_59 t_kinds t_kindLetters t_kindNames t_kindParts t_kindSorts t_kindMay a_66 a_67 a_68 a_69 a_70 a_71 a_72 a_73 a_74 a_75 l_76) (.inl (some (.int r.1)), xw_R X r.2.2.2.2.2.2.2.2.2.2.2 r.2.2.2.2.2.2.2.2.2.2.1 r.2.1 r.2.2.1 r.2.2.2.1 s_57_24 t_text a_59 r.2.2.2.2.2.2.2.2.2.1 r.2.2.2.2.1 r.2.2.2.2.2.2.1 r.2.2.2.2.2.2.2.1 r.2.2.2.2.2.2.2.2.1 r.2.2.2.2.2.1 a_66 a_67 a_68 a_69 a_70 a_71 a_72 a_73 a_74 a_75 l_76) := by
  intro t_at t_fault t_from t_kindLetters t_kindMay t_kindNames t_kindParts t_kindSorts t_kinds t_size t_thrown r h
  unfold xf_rf_schema_44 at h
  refine xe_seg ok 4 (G := (fun K => if t_fault = ((-1 : Int32)) then K (49, xm_i49, xm_I49, 0, 0, 59, [(0, .ref 59)], [], xw_R X t_thrown t_size t_at t_fault t_from s_57_24 t_text a_59 t_kinds t_kindLetters t_kindNames t_kindParts t_kindSorts t_kindMay a_66 a_67 a_68 a_69 a_70 a_71 a_72 a_73 a_74 a_75 l_76) else K (49, xm_i49, xm_I49, 0, 0, 52, [(0, .ref 59)], [], xw_R X t_thrown t_size t_at t_fault t_from s_57_24 t_text a_59 t_kinds t_kindLetters t_kindNames t_kindParts t_kindSorts t_kindMay a_66 a_67 a_68 a_69 a_70 a_71 a_72 a_73 a_74 a_75 l_76))) (fun K => rfl) ?_
  rcases xb_if h with ⟨hc609, h⟩ | ⟨hc609, h⟩
  · refine xe_pos hc609 (xe_k ?_)
    refine xe_seg ok 7 (G := (fun K => if xr_in ((1 : Int32)) 2 = true then K (49, xm_i49, xm_I49, 0, 0, 70, [(0, .ref 59)], [.int (t_kinds ((1 : Int32)).toNatClampNeg), .int ((0 : Int32)), .ref 62], xw_R X t_thrown t_size t_at t_fault t_from s_57_24 t_text a_59 t_kinds t_kindLetters t_kindNames t_kindParts t_kindSorts t_kindMay a_66 a_67 a_68 a_69 a_70 a_71 a_72 a_73 a_74 a_75 l_76) else none)) (fun K => rfl) ?_
    refine xe_pos (by decide) (xe_k ?_)
    refine xe_seg ok 1 (G := (fun K => if xr_in ((0 : Int32)) 2 = true then K (49, xm_i49, xm_I49, 0, 0, 71, [(0, .ref 59)], [], xw_R X t_thrown t_size t_at t_fault t_from s_57_24 t_text a_59 (upd t_kinds ((0 : Int32)).toNatClampNeg ((t_kinds ((1 : Int32)).toNatClampNeg))) t_kindLetters t_kindNames t_kindParts t_kindSorts t_kindMay a_66 a_67 a_68 a_69 a_70 a_71 a_72 a_73 a_74 a_75 l_76) else none)) (fun K => rfl) ?_
    refine xe_pos (by decide) (xe_k ?_)
    refine xe_seg ok 2 (G := (fun K => K (49, xm_i49, xm_I49, 0, 0, 73, [(0, .ref 59), (1, .int ((0 : Int32)))], [], xw_R X t_thrown t_size t_at t_fault t_from s_57_24 t_text a_59 (upd t_kinds ((0 : Int32)).toNatClampNeg ((t_kinds ((1 : Int32)).toNatClampNeg))) t_kindLetters t_kindNames t_kindParts t_kindSorts t_kindMay a_66 a_67 a_68 a_69 a_70 a_71 a_72 a_73 a_74 a_75 l_76))) (fun K => rfl) ?_
    refine xe_k ?_
    refine xe_sub [true, true] (lv' := [(0, .ref 59), (1, .int ((0 : Int32)))]) rfl ?_
    have hz := xh_rf_schema_57_73 (l := l) (g := g) ok a_59 a_66 a_67 a_68 a_69 a_70 a_71 a_72 a_73 a_74 a_75 l_76 s_57_24 X t_text n n t_at t_fault t_from t_kindLetters t_kindMay t_kindNames t_kindParts t_kindSorts (upd t_kinds ((0 : Int32)).toNatClampNeg ((t_kinds ((1 : Int32)).toNatClampNeg))) t_size t_thrown ((0 : Int32)) _ h
    exact hz
  · refine xe_neg hc609 (xe_k ?_)
    obtain rfl := Option.some.inj h
    refine xe_seg ok 5 (G := (fun _ => some (.inl (some (.int (((-1 : Int32)) - t_fault))), xw_R X t_thrown t_size t_at t_fault t_from s_57_24 t_text a_59 t_kinds t_kindLetters t_kindNames t_kindParts t_kindSorts t_kindMay a_66 a_67 a_68 a_69 a_70 a_71 a_72 a_73 a_74 a_75 l_76))) (fun K => rfl) ?_
    exact xe_ret
set_option maxHeartbeats 400000 in
theorem xh_rf_wrongAt_57_13 {l : Launch} {g : xr_G} (ok : xr_OK xm_P) (a_58 a_59 a_60 a_61 a_62 a_63 a_64 a_65 a_66 a_67 a_68 a_69 a_70 a_71 a_72 a_73 a_74 a_75 : Nat → Int32) (l_76 : Nat → Int64) (s_57_0 s_57_1 s_57_18 s_57_20 s_57_24 : Int32) (X : Nat → xr_C) : ∀ (t_fault : Int32) (r : (Unit × Int32)), xf_rf_wrongAt_13  t_fault = some r → xV xm_P l g (39, xm_i39, xm_I39, 0, 0, 13, [], [], xw_R X s_57_0 s_57_1 s_57_18 t_fault s_57_20 s_57_24 a_58 a_59 a_60 a_61 a_62 a_63 a_64 a_65 a_66 a_67 a_68 a_69 a_70 a_71 a_72 a_73 a_74 a_75 l_76) (.inl none, xw_R X s_57_0 s_57_1 s_57_18 r.2 s_57_20 s_57_24 a_58 a_59 a_60 a_61 a_62 a_63 a_64 a_65 a_66 a_67 a_68 a_69 a_70 a_71 a_72 a_73 a_74 a_75 l_76) := by
  intro t_fault r h
  unfold xf_rf_wrongAt_13 at h
  obtain rfl := Option.some.inj h
  refine xe_seg ok 1 (G := (fun _ => some (.inl none, xw_R X s_57_0 s_57_1 s_57_18 t_fault s_57_20 s_57_24 a_58 a_59 a_60 a_61 a_62 a_63 a_64 a_65 a_66 a_67 a_68 a_69 a_70 a_71 a_72 a_73 a_74 a_75 l_76))) (fun K => rfl) ?_
  exact xe_ret
set_option maxHeartbeats 400000 in
theorem xh_rf_wrongAt_57 {l : Launch} {g : xr_G} (ok : xr_OK xm_P) (a_58 a_59 a_60 a_61 a_62 a_63 a_64 a_65 a_66 a_67 a_68 a_69 a_70 a_71 a_72 a_73 a_74 a_75 : Nat → Int32) (l_76 : Nat → Int64) (s_57_0 s_57_1 s_57_18 s_57_20 s_57_24 : Int32) (X : Nat → xr_C) : ∀ (t_fault : Int32) (a1 : Int32) (r : (Unit × Int32)), xf_rf_wrongAt  t_fault a1 = some r → xV xm_P l g (39, xm_i39, xm_I39, 0, 0, 0, [(0, .ref 59), (1, .int a1)], [], xw_R X s_57_0 s_57_1 s_57_18 t_fault s_57_20 s_57_24 a_58 a_59 a_60 a_61 a_62 a_63 a_64 a_65 a_66 a_67 a_68 a_69 a_70 a_71 a_72 a_73 a_74 a_75 l_76) (.inl none, xw_R X s_57_0 s_57_1 s_57_18 r.2 s_57_20 s_57_24 a_58 a_59 a_60 a_61 a_62 a_63 a_64 a_65 a_66 a_67 a_68 a_69 a_70 a_71 a_72 a_73 a_74 a_75 l_76) := by
  intro t_fault a1 r h
  unfold xf_rf_wrongAt at h
  refine xe_seg ok 4 (G := (fun K => if t_fault = ((-1 : Int32)) then K (39, xm_i39, xm_I39, 0, 0, 8, [(0, .ref 59), (1, .int a1)], [], xw_R X s_57_0 s_57_1 s_57_18 t_fault s_57_20 s_57_24 a_58 a_59 a_60 a_61 a_62 a_63 a_64 a_65 a_66 a_67 a_68 a_69 a_70 a_71 a_72 a_73 a_74 a_75 l_76) else K (39, xm_i39, xm_I39, 0, 0, 13, [(0, .ref 59), (1, .int a1)], [], xw_R X s_57_0 s_57_1 s_57_18 t_fault s_57_20 s_57_24 a_58 a_59 a_60 a_61 a_62 a_63 a_64 a_65 a_66 a_67 a_68 a_69 a_70 a_71 a_72 a_73 a_74 a_75 l_76))) (fun K => rfl) ?_
  rcases xb_if h with ⟨hc623, h⟩ | ⟨hc623, h⟩
  · refine xe_pos hc623 (xe_k ?_)
    refine xe_seg ok 3 (G := (fun K => K (39, xm_i39, xm_I39, 0, 0, 13, [(0, .ref 59), (1, .int a1)], [], xw_R X s_57_0 s_57_1 s_57_18 a1 s_57_20 s_57_24 a_58 a_59 a_60 a_61 a_62 a_63 a_64 a_65 a_66 a_67 a_68 a_69 a_70 a_71 a_72 a_73 a_74 a_75 l_76))) (fun K => rfl) ?_
    refine xe_k ?_
    refine xe_sub [false, false] (lv' := []) rfl ?_
    have hz := xh_rf_wrongAt_57_13 (l := l) (g := g) ok a_58 a_59 a_60 a_61 a_62 a_63 a_64 a_65 a_66 a_67 a_68 a_69 a_70 a_71 a_72 a_73 a_74 a_75 l_76 s_57_0 s_57_1 s_57_18 s_57_20 s_57_24 X a1 _ h
    exact hz
  · refine xe_neg hc623 (xe_k ?_)
    refine xe_sub [false, false] (lv' := []) rfl ?_
    have hz := xh_rf_wrongAt_57_13 (l := l) (g := g) ok a_58 a_59 a_60 a_61 a_62 a_63 a_64 a_65 a_66 a_67 a_68 a_69 a_70 a_71 a_72 a_73 a_74 a_75 l_76 s_57_0 s_57_1 s_57_18 s_57_20 s_57_24 X t_fault _ h
    exact hz
set_option maxHeartbeats 400000 in
theorem xh_rf_isLetter_17 {l : Launch} {g : xr_G} (ok : xr_OK xm_P) (a_58 a_59 a_60 a_61 a_62 a_63 a_64 a_65 a_66 a_67 a_68 a_69 a_70 a_71 a_72 a_73 a_74 a_75 : Nat → Int32) (l_76 : Nat → Int64) (s_57_0 s_57_1 s_57_18 s_57_19 s_57_20 s_57_24 : Int32) (X : Nat → xr_C) : ∀ (s0 : Int32) (r : (Int32)), xf_rf_isLetter_17  s0 = some r → xV xm_P l g (38, xm_i38, xm_I38, 0, 0, 17, [], [.int s0], xw_R X s_57_0 s_57_1 s_57_18 s_57_19 s_57_20 s_57_24 a_58 a_59 a_60 a_61 a_62 a_63 a_64 a_65 a_66 a_67 a_68 a_69 a_70 a_71 a_72 a_73 a_74 a_75 l_76) (.inl (some (.int r)), xw_R X s_57_0 s_57_1 s_57_18 s_57_19 s_57_20 s_57_24 a_58 a_59 a_60 a_61 a_62 a_63 a_64 a_65 a_66 a_67 a_68 a_69 a_70 a_71 a_72 a_73 a_74 a_75 l_76) := by
  intro s0 r h
  unfold xf_rf_isLetter_17 at h
  refine xe_seg ok 1 (G := (fun _ => if fits .boolean (.int s0) = true then some (.inl (some (.int s0)), xw_R X s_57_0 s_57_1 s_57_18 s_57_19 s_57_20 s_57_24 a_58 a_59 a_60 a_61 a_62 a_63 a_64 a_65 a_66 a_67 a_68 a_69 a_70 a_71 a_72 a_73 a_74 a_75 l_76) else none)) (fun K => rfl) ?_
  obtain ⟨hg630, h⟩ := xn_if h
  obtain rfl := Option.some.inj h
  exact xe_pos (A := fun _ => some (.inl (some (.int s0)), xw_R X s_57_0 s_57_1 s_57_18 s_57_19 s_57_20 s_57_24 a_58 a_59 a_60 a_61 a_62 a_63 a_64 a_65 a_66 a_67 a_68 a_69 a_70 a_71 a_72 a_73 a_74 a_75 l_76)) (B := fun _ => none) hg630 xe_ret
set_option maxHeartbeats 400000 in
theorem xh_rf_isLetter_16 {l : Launch} {g : xr_G} (ok : xr_OK xm_P) (a_58 a_59 a_60 a_61 a_62 a_63 a_64 a_65 a_66 a_67 a_68 a_69 a_70 a_71 a_72 a_73 a_74 a_75 : Nat → Int32) (l_76 : Nat → Int64) (s_57_0 s_57_1 s_57_18 s_57_19 s_57_20 s_57_24 : Int32) (X : Nat → xr_C) : ∀  (r : (Int32)), xf_rf_isLetter_16   = some r → xV xm_P l g (38, xm_i38, xm_I38, 0, 0, 16, [], [], xw_R X s_57_0 s_57_1 s_57_18 s_57_19 s_57_20 s_57_24 a_58 a_59 a_60 a_61 a_62 a_63 a_64 a_65 a_66 a_67 a_68 a_69 a_70 a_71 a_72 a_73 a_74 a_75 l_76) (.inl (some (.int r)), xw_R X s_57_0 s_57_1 s_57_18 s_57_19 s_57_20 s_57_24 a_58 a_59 a_60 a_61 a_62 a_63 a_64 a_65 a_66 a_67 a_68 a_69 a_70 a_71 a_72 a_73 a_74 a_75 l_76) := by
  intro  r h
  unfold xf_rf_isLetter_16 at h
  refine xe_seg ok 1 (G := (fun K => K (38, xm_i38, xm_I38, 0, 0, 17, [], [.int ((0 : Int32))], xw_R X s_57_0 s_57_1 s_57_18 s_57_19 s_57_20 s_57_24 a_58 a_59 a_60 a_61 a_62 a_63 a_64 a_65 a_66 a_67 a_68 a_69 a_70 a_71 a_72 a_73 a_74 a_75 l_76))) (fun K => rfl) ?_
  refine xe_k ?_
  refine xe_sub [] (lv' := []) rfl ?_
  have hz := xh_rf_isLetter_17 (l := l) (g := g) ok a_58 a_59 a_60 a_61 a_62 a_63 a_64 a_65 a_66 a_67 a_68 a_69 a_70 a_71 a_72 a_73 a_74 a_75 l_76 s_57_0 s_57_1 s_57_18 s_57_19 s_57_20 s_57_24 X ((0 : Int32)) _ h
  exact hz
set_option maxHeartbeats 400000 in
theorem xh_rf_isLetter {l : Launch} {g : xr_G} (ok : xr_OK xm_P) (a_58 a_59 a_60 a_61 a_62 a_63 a_64 a_65 a_66 a_67 a_68 a_69 a_70 a_71 a_72 a_73 a_74 a_75 : Nat → Int32) (l_76 : Nat → Int64) (s_57_0 s_57_1 s_57_18 s_57_19 s_57_20 s_57_24 : Int32) (X : Nat → xr_C) : ∀ (a1 : Int32) (r : (Int32)), xf_rf_isLetter  a1 = some r → xV xm_P l g (38, xm_i38, xm_I38, 0, 0, 0, [(0, .int a1)], [], xw_R X s_57_0 s_57_1 s_57_18 s_57_19 s_57_20 s_57_24 a_58 a_59 a_60 a_61 a_62 a_63 a_64 a_65 a_66 a_67 a_68 a_69 a_70 a_71 a_72 a_73 a_74 a_75 l_76) (.inl (some (.int r)), xw_R X s_57_0 s_57_1 s_57_18 s_57_19 s_57_20 s_57_24 a_58 a_59 a_60 a_61 a_62 a_63 a_64 a_65 a_66 a_67 a_68 a_69 a_70 a_71 a_72 a_73 a_74 a_75 l_76) := by
  intro a1 r h
  unfold xf_rf_isLetter at h
  refine xe_seg ok 3 (G := (fun K => if a1 < ((65 : Int32)) then K (38, xm_i38, xm_I38, 0, 0, 16, [(0, .int a1)], [], xw_R X s_57_0 s_57_1 s_57_18 s_57_19 s_57_20 s_57_24 a_58 a_59 a_60 a_61 a_62 a_63 a_64 a_65 a_66 a_67 a_68 a_69 a_70 a_71 a_72 a_73 a_74 a_75 l_76) else K (38, xm_i38, xm_I38, 0, 0, 6, [(0, .int a1)], [], xw_R X s_57_0 s_57_1 s_57_18 s_57_19 s_57_20 s_57_24 a_58 a_59 a_60 a_61 a_62 a_63 a_64 a_65 a_66 a_67 a_68 a_69 a_70 a_71 a_72 a_73 a_74 a_75 l_76))) (fun K => rfl) ?_
  rcases xb_if h with ⟨hc629, h⟩ | ⟨hc629, h⟩
  · refine xe_pos hc629 (xe_k ?_)
    refine xe_sub [false] (lv' := []) rfl ?_
    have hz := xh_rf_isLetter_16 (l := l) (g := g) ok a_58 a_59 a_60 a_61 a_62 a_63 a_64 a_65 a_66 a_67 a_68 a_69 a_70 a_71 a_72 a_73 a_74 a_75 l_76 s_57_0 s_57_1 s_57_18 s_57_19 s_57_20 s_57_24 X  _ h
    exact hz
  · refine xe_neg hc629 (xe_k ?_)
    refine xe_seg ok 3 (G := (fun K => if ((90 : Int32)) < a1 then K (38, xm_i38, xm_I38, 0, 0, 16, [(0, .int a1)], [], xw_R X s_57_0 s_57_1 s_57_18 s_57_19 s_57_20 s_57_24 a_58 a_59 a_60 a_61 a_62 a_63 a_64 a_65 a_66 a_67 a_68 a_69 a_70 a_71 a_72 a_73 a_74 a_75 l_76) else K (38, xm_i38, xm_I38, 0, 0, 12, [(0, .int a1)], [], xw_R X s_57_0 s_57_1 s_57_18 s_57_19 s_57_20 s_57_24 a_58 a_59 a_60 a_61 a_62 a_63 a_64 a_65 a_66 a_67 a_68 a_69 a_70 a_71 a_72 a_73 a_74 a_75 l_76))) (fun K => rfl) ?_
    rcases xb_if h with ⟨hc631, h⟩ | ⟨hc631, h⟩
    · refine xe_pos hc631 (xe_k ?_)
      refine xe_sub [false] (lv' := []) rfl ?_
      have hz := xh_rf_isLetter_16 (l := l) (g := g) ok a_58 a_59 a_60 a_61 a_62 a_63 a_64 a_65 a_66 a_67 a_68 a_69 a_70 a_71 a_72 a_73 a_74 a_75 l_76 s_57_0 s_57_1 s_57_18 s_57_19 s_57_20 s_57_24 X  _ h
      exact hz
    · refine xe_neg hc631 (xe_k ?_)
      refine xe_seg ok 2 (G := (fun K => K (38, xm_i38, xm_I38, 0, 0, 17, [(0, .int a1)], [.int ((1 : Int32))], xw_R X s_57_0 s_57_1 s_57_18 s_57_19 s_57_20 s_57_24 a_58 a_59 a_60 a_61 a_62 a_63 a_64 a_65 a_66 a_67 a_68 a_69 a_70 a_71 a_72 a_73 a_74 a_75 l_76))) (fun K => rfl) ?_
      refine xe_k ?_
      refine xe_sub [false] (lv' := []) rfl ?_
      have hz := xh_rf_isLetter_17 (l := l) (g := g) ok a_58 a_59 a_60 a_61 a_62 a_63 a_64 a_65 a_66 a_67 a_68 a_69 a_70 a_71 a_72 a_73 a_74 a_75 l_76 s_57_0 s_57_1 s_57_18 s_57_19 s_57_20 s_57_24 X ((1 : Int32)) _ h
      exact hz
set_option maxHeartbeats 400000 in
theorem xh_rf_name_57_62_131 {l : Launch} {g : xr_G} (ok : xr_OK xm_P) (a_59 a_60 a_61 a_63 a_64 a_65 a_66 a_67 a_68 a_69 a_70 a_71 a_72 a_73 a_74 a_75 : Nat → Int32) (l_76 : Nat → Int64) (s_57_0 s_57_24 : Int32) (X : Nat → xr_C) (t_size : Int32) (t_text : (Nat → Int32)) (n : Nat) : ∀ (p1 : (Nat → Int32)) (t_at : Int32) (t_fault : Int32) (t_from : Int32) (r : (Int32 × (Nat → Int32) × Int32 × Int32 × Int32)), xf_rf_name_131 t_size t_text 192 n p1 t_at t_fault t_from = some r → xV xm_P l g (42, xm_i42, xm_I42, 0, 0, 131, [(0, .ref 59)], [], xw_R X s_57_0 t_size t_at t_fault t_from s_57_24 t_text a_59 a_60 a_61 p1 a_63 a_64 a_65 a_66 a_67 a_68 a_69 a_70 a_71 a_72 a_73 a_74 a_75 l_76) (.inl (some (.int r.1)), xw_R X s_57_0 t_size r.2.2.1 r.2.2.2.1 r.2.2.2.2 s_57_24 t_text a_59 a_60 a_61 r.2.1 a_63 a_64 a_65 a_66 a_67 a_68 a_69 a_70 a_71 a_72 a_73 a_74 a_75 l_76) := by
  intro p1 t_at t_fault t_from r h
  unfold xf_rf_name_131 at h
  obtain rfl := Option.some.inj h
  refine xe_seg ok 6 (G := (fun _ => some (.inl (some (.int (t_at - t_from))), xw_R X s_57_0 t_size t_at t_fault t_from s_57_24 t_text a_59 a_60 a_61 p1 a_63 a_64 a_65 a_66 a_67 a_68 a_69 a_70 a_71 a_72 a_73 a_74 a_75 l_76))) (fun K => rfl) ?_
  exact xe_ret
set_option maxHeartbeats 400000 in
theorem xh_rf_name_57_62_123 {l : Launch} {g : xr_G} (ok : xr_OK xm_P) (a_59 a_60 a_61 a_63 a_64 a_65 a_66 a_67 a_68 a_69 a_70 a_71 a_72 a_73 a_74 a_75 : Nat → Int32) (l_76 : Nat → Int64) (s_57_0 s_57_24 : Int32) (X : Nat → xr_C) (t_size : Int32) (t_text : (Nat → Int32)) (n : Nat) : ∀ (p1 : (Nat → Int32)) (t_at : Int32) (t_fault : Int32) (t_from : Int32) (r : (Int32 × (Nat → Int32) × Int32 × Int32 × Int32)), xf_rf_name_123 t_size t_text 192 n p1 t_at t_fault t_from = some r → xV xm_P l g (42, xm_i42, xm_I42, 0, 0, 123, [(0, .ref 59)], [], xw_R X s_57_0 t_size t_at t_fault t_from s_57_24 t_text a_59 a_60 a_61 p1 a_63 a_64 a_65 a_66 a_67 a_68 a_69 a_70 a_71 a_72 a_73 a_74 a_75 l_76) (.inl (some (.int r.1)), xw_R X s_57_0 t_size r.2.2.1 r.2.2.2.1 r.2.2.2.2 s_57_24 t_text a_59 a_60 a_61 r.2.1 a_63 a_64 a_65 a_66 a_67 a_68 a_69 a_70 a_71 a_72 a_73 a_74 a_75 l_76) := by
  intro p1 t_at t_fault t_from r h
  unfold xf_rf_name_123 at h
  refine xe_seg ok 4 (G := (fun K => xr_back K 42 xm_i42 xm_I42 0 0 128 [(0, .ref 59)] [] 78 true (K (39, xm_i39, xm_I39, 0, 0, 0, [(0, .ref 59), (1, .int t_from)], [], xw_R X s_57_0 t_size t_at t_fault t_from s_57_24 t_text a_59 a_60 a_61 p1 a_63 a_64 a_65 a_66 a_67 a_68 a_69 a_70 a_71 a_72 a_73 a_74 a_75 l_76)))) (fun K => rfl) ?_
  obtain ⟨q635, hq635, h⟩ := Option.bind_eq_some_iff.mp h
  have heq635 := xh_rf_wrongAt_57 (l := l) (g := g) ok t_text a_59 a_60 a_61 p1 a_63 a_64 a_65 a_66 a_67 a_68 a_69 a_70 a_71 a_72 a_73 a_74 a_75 l_76 s_57_0 t_size t_at t_from s_57_24 X t_fault t_from _ hq635
  refine xe_call0 (ws' := xw_R X s_57_0 t_size t_at q635.2 t_from s_57_24 t_text a_59 a_60 a_61 p1 a_63 a_64 a_65 a_66 a_67 a_68 a_69 a_70 a_71 a_72 a_73 a_74 a_75 l_76) (by decide) heq635 (Or.inl rfl) ?_
  refine xe_sub [true] (lv' := [(0, .ref 59)]) rfl ?_
  have hz := xh_rf_name_57_62_131 (l := l) (g := g) ok a_59 a_60 a_61 a_63 a_64 a_65 a_66 a_67 a_68 a_69 a_70 a_71 a_72 a_73 a_74 a_75 l_76 s_57_0 s_57_24 X t_size t_text n p1 t_at q635.2 t_from _ h
  exact hz
set_option maxHeartbeats 400000 in
theorem xh_rf_name_57_62_98 {l : Launch} {g : xr_G} (ok : xr_OK xm_P) (a_59 a_60 a_61 a_63 a_64 a_65 a_66 a_67 a_68 a_69 a_70 a_71 a_72 a_73 a_74 a_75 : Nat → Int32) (l_76 : Nat → Int64) (s_57_0 s_57_24 : Int32) (X : Nat → xr_C) (t_size : Int32) (t_text : (Nat → Int32)) (n : Nat) : ∀ (p1 : (Nat → Int32)) (t_at : Int32) (t_fault : Int32) (t_from : Int32) (r : (Int32 × (Nat → Int32) × Int32 × Int32 × Int32)), xf_rf_name_98 t_size t_text 192 n p1 t_at t_fault t_from = some r → xV xm_P l g (42, xm_i42, xm_I42, 0, 0, 98, [(0, .ref 59)], [], xw_R X s_57_0 t_size t_at t_fault t_from s_57_24 t_text a_59 a_60 a_61 p1 a_63 a_64 a_65 a_66 a_67 a_68 a_69 a_70 a_71 a_72 a_73 a_74 a_75 l_76) (.inl (some (.int r.1)), xw_R X s_57_0 t_size r.2.2.1 r.2.2.2.1 r.2.2.2.2 s_57_24 t_text a_59 a_60 a_61 r.2.1 a_63 a_64 a_65 a_66 a_67 a_68 a_69 a_70 a_71 a_72 a_73 a_74 a_75 l_76) := by
  intro p1 t_at t_fault t_from r h
  unfold xf_rf_name_98 at h
  refine xe_seg ok 5 (G := (fun K => if t_at = t_from then K (42, xm_i42, xm_I42, 0, 0, 123, [(0, .ref 59)], [], xw_R X s_57_0 t_size t_at t_fault t_from s_57_24 t_text a_59 a_60 a_61 p1 a_63 a_64 a_65 a_66 a_67 a_68 a_69 a_70 a_71 a_72 a_73 a_74 a_75 l_76) else K (42, xm_i42, xm_I42, 0, 0, 109, [(0, .ref 59)], [], xw_R X s_57_0 t_size t_at t_fault t_from s_57_24 t_text a_59 a_60 a_61 p1 a_63 a_64 a_65 a_66 a_67 a_68 a_69 a_70 a_71 a_72 a_73 a_74 a_75 l_76))) (fun K => rfl) ?_
  rcases xb_if h with ⟨hc634, h⟩ | ⟨hc634, h⟩
  · refine xe_pos hc634 (xe_k ?_)
    refine xe_sub [true] (lv' := [(0, .ref 59)]) rfl ?_
    have hz := xh_rf_name_57_62_123 (l := l) (g := g) ok a_59 a_60 a_61 a_63 a_64 a_65 a_66 a_67 a_68 a_69 a_70 a_71 a_72 a_73 a_74 a_75 l_76 s_57_0 s_57_24 X t_size t_text n p1 t_at t_fault t_from _ h
    exact hz
  · refine xe_neg hc634 (xe_k ?_)
    refine xe_seg ok 7 (G := (fun K => if ((8 : Int32)) < (t_at - t_from) then K (42, xm_i42, xm_I42, 0, 0, 123, [(0, .ref 59)], [], xw_R X s_57_0 t_size t_at t_fault t_from s_57_24 t_text a_59 a_60 a_61 p1 a_63 a_64 a_65 a_66 a_67 a_68 a_69 a_70 a_71 a_72 a_73 a_74 a_75 l_76) else K (42, xm_i42, xm_I42, 0, 0, 131, [(0, .ref 59)], [], xw_R X s_57_0 t_size t_at t_fault t_from s_57_24 t_text a_59 a_60 a_61 p1 a_63 a_64 a_65 a_66 a_67 a_68 a_69 a_70 a_71 a_72 a_73 a_74 a_75 l_76))) (fun K => rfl) ?_
    rcases xb_if h with ⟨hc636, h⟩ | ⟨hc636, h⟩
    · refine xe_pos hc636 (xe_k ?_)
      refine xe_sub [true] (lv' := [(0, .ref 59)]) rfl ?_
      have hz := xh_rf_name_57_62_123 (l := l) (g := g) ok a_59 a_60 a_61 a_63 a_64 a_65 a_66 a_67 a_68 a_69 a_70 a_71 a_72 a_73 a_74 a_75 l_76 s_57_0 s_57_24 X t_size t_text n p1 t_at t_fault t_from _ h
      exact hz
    · refine xe_neg hc636 (xe_k ?_)
      refine xe_sub [true] (lv' := [(0, .ref 59)]) rfl ?_
      have hz := xh_rf_name_57_62_131 (l := l) (g := g) ok a_59 a_60 a_61 a_63 a_64 a_65 a_66 a_67 a_68 a_69 a_70 a_71 a_72 a_73 a_74 a_75 l_76 s_57_0 s_57_24 X t_size t_text n p1 t_at t_fault t_from _ h
      exact hz
set_option maxHeartbeats 400000 in
theorem xh_rf_name_57_62_85 {l : Launch} {g : xr_G} (ok : xr_OK xm_P) (a_59 a_60 a_61 a_63 a_64 a_65 a_66 a_67 a_68 a_69 a_70 a_71 a_72 a_73 a_74 a_75 : Nat → Int32) (l_76 : Nat → Int64) (s_57_0 s_57_24 : Int32) (X : Nat → xr_C) (t_size : Int32) (t_text : (Nat → Int32)) {k23 : (Nat → Int32) → Int32 → Int32 → Int32 → Int32 → Option (Int32 × (Nat → Int32) × Int32 × Int32 × Int32)} (hk23 : ∀ (p1 : (Nat → Int32)) (t_at : Int32) (t_fault : Int32) (t_from : Int32) (v2 : Int32) (r : (Int32 × (Nat → Int32) × Int32 × Int32 × Int32)), k23 p1 t_at t_fault t_from v2 = some r → xV xm_P l g (42, xm_i42, xm_I42, 0, 0, 23, [(0, .ref 59), (1, .ref 64), (2, .int v2)], [], xw_R X s_57_0 t_size t_at t_fault t_from s_57_24 t_text a_59 a_60 a_61 p1 a_63 a_64 a_65 a_66 a_67 a_68 a_69 a_70 a_71 a_72 a_73 a_74 a_75 l_76) (.inl (some (.int r.1)), xw_R X s_57_0 t_size r.2.2.1 r.2.2.2.1 r.2.2.2.2 s_57_24 t_text a_59 a_60 a_61 r.2.1 a_63 a_64 a_65 a_66 a_67 a_68 a_69 a_70 a_71 a_72 a_73 a_74 a_75 l_76)) (n : Nat) : ∀ (p1 : (Nat → Int32)) (t_at : Int32) (t_fault : Int32) (t_from : Int32) (v2 : Int32) (r : (Int32 × (Nat → Int32) × Int32 × Int32 × Int32)), xf_rf_name_85 t_size t_text 192 k23 n p1 t_at t_fault t_from v2 = some r → xV xm_P l g (42, xm_i42, xm_I42, 0, 0, 85, [(0, .ref 59), (1, .ref 64), (2, .int v2)], [], xw_R X s_57_0 t_size t_at t_fault t_from s_57_24 t_text a_59 a_60 a_61 p1 a_63 a_64 a_65 a_66 a_67 a_68 a_69 a_70 a_71 a_72 a_73 a_74 a_75 l_76) (.inl (some (.int r.1)), xw_R X s_57_0 t_size r.2.2.1 r.2.2.2.1 r.2.2.2.2 s_57_24 t_text a_59 a_60 a_61 r.2.1 a_63 a_64 a_65 a_66 a_67 a_68 a_69 a_70 a_71 a_72 a_73 a_74 a_75 l_76) := by
  intro p1 t_at t_fault t_from v2 r h
  unfold xf_rf_name_85 at h
  refine xe_seg ok 7 (G := (fun K => K (42, xm_i42, xm_I42, 0, 0, 23, [(0, .ref 59), (1, .ref 64), (2, .int v2)], [], xw_R X s_57_0 t_size (t_at + ((1 : Int32))) t_fault t_from s_57_24 t_text a_59 a_60 a_61 p1 a_63 a_64 a_65 a_66 a_67 a_68 a_69 a_70 a_71 a_72 a_73 a_74 a_75 l_76))) (fun K => rfl) ?_
  refine xe_k ?_
  refine xe_sub [true, true, true] (lv' := [(0, .ref 59), (1, .ref 64), (2, .int v2)]) rfl ?_
  have hz := hk23 p1 (t_at + ((1 : Int32))) t_fault t_from v2 _ h
  exact hz
set_option maxHeartbeats 400000 in
theorem xh_rf_name_57_62_23 {l : Launch} {g : xr_G} (ok : xr_OK xm_P) (a_59 a_60 a_61 a_63 a_64 a_65 a_66 a_67 a_68 a_69 a_70 a_71 a_72 a_73 a_74 a_75 : Nat → Int32) (l_76 : Nat → Int64) (s_57_0 s_57_24 : Int32) (X : Nat → xr_C) (t_size : Int32) (t_text : (Nat → Int32)) (n : Nat) : ∀ (N : Nat) (p1 : (Nat → Int32)) (t_at : Int32) (t_fault : Int32) (t_from : Int32) (v2 : Int32) (r : (Int32 × (Nat → Int32) × Int32 × Int32 × Int32)), xf_rf_name_23 t_size t_text 192 n N p1 t_at t_fault t_from v2 = some r → xV xm_P l g (42, xm_i42, xm_I42, 0, 0, 23, [(0, .ref 59), (1, .ref 64), (2, .int v2)], [], xw_R X s_57_0 t_size t_at t_fault t_from s_57_24 t_text a_59 a_60 a_61 p1 a_63 a_64 a_65 a_66 a_67 a_68 a_69 a_70 a_71 a_72 a_73 a_74 a_75 l_76) (.inl (some (.int r.1)), xw_R X s_57_0 t_size r.2.2.1 r.2.2.2.1 r.2.2.2.2 s_57_24 t_text a_59 a_60 a_61 r.2.1 a_63 a_64 a_65 a_66 a_67 a_68 a_69 a_70 a_71 a_72 a_73 a_74 a_75 l_76) := by
  intro N
  induction N with
  | zero => intro p1 t_at t_fault t_from v2 r h; cases h
  | succ N hk23 =>
    intro p1 t_at t_fault t_from v2 r h
    refine xe_seg ok 5 (G := (fun K => if t_at < t_size then K (42, xm_i42, xm_I42, 0, 0, 34, [(0, .ref 59), (1, .ref 64), (2, .int v2)], [], xw_R X s_57_0 t_size t_at t_fault t_from s_57_24 t_text a_59 a_60 a_61 p1 a_63 a_64 a_65 a_66 a_67 a_68 a_69 a_70 a_71 a_72 a_73 a_74 a_75 l_76) else K (42, xm_i42, xm_I42, 0, 0, 98, [(0, .ref 59), (1, .ref 64), (2, .int v2)], [], xw_R X s_57_0 t_size t_at t_fault t_from s_57_24 t_text a_59 a_60 a_61 p1 a_63 a_64 a_65 a_66 a_67 a_68 a_69 a_70 a_71 a_72 a_73 a_74 a_75 l_76))) (fun K => rfl) ?_
    rcases xb_if h with ⟨hc627, h⟩ | ⟨hc627, h⟩
    · refine xe_pos hc627 (xe_k ?_)
      refine xe_seg ok 5 (G := (fun K => if xr_in t_at 1200 = true then K (42, xm_i42, xm_I42, 0, 0, 43, [(0, .ref 59), (1, .ref 64), (2, .int v2)], [.int (t_text t_at.toNatClampNeg)], xw_R X s_57_0 t_size t_at t_fault t_from s_57_24 t_text a_59 a_60 a_61 p1 a_63 a_64 a_65 a_66 a_67 a_68 a_69 a_70 a_71 a_72 a_73 a_74 a_75 l_76) else none)) (fun K => rfl) ?_
      obtain ⟨hg628, h⟩ := xn_if h
      refine xe_pos hg628 (xe_k ?_)
      refine xe_seg ok 1 (G := (fun K => xr_back K 42 xm_i42 xm_I42 0 0 43 [(0, .ref 59), (1, .ref 64), (2, .int v2)] [] 78 true (K (38, xm_i38, xm_I38, 0, 0, 0, [(0, .int (t_text t_at.toNatClampNeg))], [], xw_R X s_57_0 t_size t_at t_fault t_from s_57_24 t_text a_59 a_60 a_61 p1 a_63 a_64 a_65 a_66 a_67 a_68 a_69 a_70 a_71 a_72 a_73 a_74 a_75 l_76)))) (fun K => rfl) ?_
      obtain ⟨q632, hq632, h⟩ := Option.bind_eq_some_iff.mp h
      have heq632 := xh_rf_isLetter (l := l) (g := g) ok t_text a_59 a_60 a_61 p1 a_63 a_64 a_65 a_66 a_67 a_68 a_69 a_70 a_71 a_72 a_73 a_74 a_75 l_76 s_57_0 t_size t_at t_fault t_from s_57_24 X (t_text t_at.toNatClampNeg) _ hq632
      refine xe_call1 (ws' := xw_R X s_57_0 t_size t_at t_fault t_from s_57_24 t_text a_59 a_60 a_61 p1 a_63 a_64 a_65 a_66 a_67 a_68 a_69 a_70 a_71 a_72 a_73 a_74 a_75 l_76) (by decide) heq632 (Or.inl rfl) ?_
      refine xe_seg ok 1 (G := (fun K => if q632 = (0 : Int32) then K (42, xm_i42, xm_I42, 0, 0, 98, [(0, .ref 59), (1, .ref 64), (2, .int v2)], [], xw_R X s_57_0 t_size t_at t_fault t_from s_57_24 t_text a_59 a_60 a_61 p1 a_63 a_64 a_65 a_66 a_67 a_68 a_69 a_70 a_71 a_72 a_73 a_74 a_75 l_76) else K (42, xm_i42, xm_I42, 0, 0, 49, [(0, .ref 59), (1, .ref 64), (2, .int v2)], [], xw_R X s_57_0 t_size t_at t_fault t_from s_57_24 t_text a_59 a_60 a_61 p1 a_63 a_64 a_65 a_66 a_67 a_68 a_69 a_70 a_71 a_72 a_73 a_74 a_75 l_76))) (fun K => rfl) ?_
      rcases xb_if h with ⟨hc633, h⟩ | ⟨hc633, h⟩
      · refine xe_pos hc633 (xe_k ?_)
        refine xe_sub [true, false, false] (lv' := [(0, .ref 59)]) rfl ?_
        have hz := xh_rf_name_57_62_98 (l := l) (g := g) ok a_59 a_60 a_61 a_63 a_64 a_65 a_66 a_67 a_68 a_69 a_70 a_71 a_72 a_73 a_74 a_75 l_76 s_57_0 s_57_24 X t_size t_text n p1 t_at t_fault t_from _ h
        exact hz
      · refine xe_neg hc633 (xe_k ?_)
        refine xe_seg ok 7 (G := (fun K => if (t_at - t_from) < ((8 : Int32)) then K (42, xm_i42, xm_I42, 0, 0, 63, [(0, .ref 59), (1, .ref 64), (2, .int v2)], [], xw_R X s_57_0 t_size t_at t_fault t_from s_57_24 t_text a_59 a_60 a_61 p1 a_63 a_64 a_65 a_66 a_67 a_68 a_69 a_70 a_71 a_72 a_73 a_74 a_75 l_76) else K (42, xm_i42, xm_I42, 0, 0, 85, [(0, .ref 59), (1, .ref 64), (2, .int v2)], [], xw_R X s_57_0 t_size t_at t_fault t_from s_57_24 t_text a_59 a_60 a_61 p1 a_63 a_64 a_65 a_66 a_67 a_68 a_69 a_70 a_71 a_72 a_73 a_74 a_75 l_76))) (fun K => rfl) ?_
        rcases xb_if h with ⟨hc637, h⟩ | ⟨hc637, h⟩
        · refine xe_pos hc637 (xe_k ?_)
          refine xe_seg ok 13 (G := (fun K => if xr_in t_at 1200 = true then K (42, xm_i42, xm_I42, 0, 0, 84, [(0, .ref 59), (1, .ref 64), (2, .int v2)], [.int (t_text t_at.toNatClampNeg), .int ((v2 + t_at) - t_from), .ref 64], xw_R X s_57_0 t_size t_at t_fault t_from s_57_24 t_text a_59 a_60 a_61 p1 a_63 a_64 a_65 a_66 a_67 a_68 a_69 a_70 a_71 a_72 a_73 a_74 a_75 l_76) else none)) (fun K => rfl) ?_
          obtain ⟨hg638, h⟩ := xn_if h
          refine xe_pos hg638 (xe_k ?_)
          refine xe_seg ok 1 (G := (fun K => if xr_in ((v2 + t_at) - t_from) 192 = true then K (42, xm_i42, xm_I42, 0, 0, 85, [(0, .ref 59), (1, .ref 64), (2, .int v2)], [], xw_R X s_57_0 t_size t_at t_fault t_from s_57_24 t_text a_59 a_60 a_61 (upd p1 ((v2 + t_at) - t_from).toNatClampNeg ((t_text t_at.toNatClampNeg))) a_63 a_64 a_65 a_66 a_67 a_68 a_69 a_70 a_71 a_72 a_73 a_74 a_75 l_76) else none)) (fun K => rfl) ?_
          obtain ⟨hg639, h⟩ := xn_if h
          refine xe_pos hg639 (xe_k ?_)
          refine xe_sub [true, true, true] (lv' := [(0, .ref 59), (1, .ref 64), (2, .int v2)]) rfl ?_
          have hz := xh_rf_name_57_62_85 (l := l) (g := g) ok a_59 a_60 a_61 a_63 a_64 a_65 a_66 a_67 a_68 a_69 a_70 a_71 a_72 a_73 a_74 a_75 l_76 s_57_0 s_57_24 X t_size t_text hk23 n (upd p1 ((v2 + t_at) - t_from).toNatClampNeg ((t_text t_at.toNatClampNeg))) t_at t_fault t_from v2 _ h
          exact hz
        · refine xe_neg hc637 (xe_k ?_)
          refine xe_sub [true, true, true] (lv' := [(0, .ref 59), (1, .ref 64), (2, .int v2)]) rfl ?_
          have hz := xh_rf_name_57_62_85 (l := l) (g := g) ok a_59 a_60 a_61 a_63 a_64 a_65 a_66 a_67 a_68 a_69 a_70 a_71 a_72 a_73 a_74 a_75 l_76 s_57_0 s_57_24 X t_size t_text hk23 n p1 t_at t_fault t_from v2 _ h
          exact hz
    · refine xe_neg hc627 (xe_k ?_)
      refine xe_sub [true, false, false] (lv' := [(0, .ref 59)]) rfl ?_
      have hz := xh_rf_name_57_62_98 (l := l) (g := g) ok a_59 a_60 a_61 a_63 a_64 a_65 a_66 a_67 a_68 a_69 a_70 a_71 a_72 a_73 a_74 a_75 l_76 s_57_0 s_57_24 X t_size t_text n p1 t_at t_fault t_from _ h
      exact hz
set_option maxHeartbeats 400000 in
theorem xh_rf_name_57_62 {l : Launch} {g : xr_G} (ok : xr_OK xm_P) (a_59 a_60 a_61 a_63 a_64 a_65 a_66 a_67 a_68 a_69 a_70 a_71 a_72 a_73 a_74 a_75 : Nat → Int32) (l_76 : Nat → Int64) (s_57_0 s_57_24 : Int32) (X : Nat → xr_C) (t_size : Int32) (t_text : (Nat → Int32)) (n : Nat) : ∀ (p1 : (Nat → Int32)) (t_at : Int32) (t_fault : Int32) (t_from : Int32) (a2 : Int32) (r : (Int32 × (Nat → Int32) × Int32 × Int32 × Int32)), xf_rf_name t_size t_text 192 n p1 t_at t_fault t_from a2 = some r → xV xm_P l g (42, xm_i42, xm_I42, 0, 0, 0, [(0, .ref 59), (1, .ref 64), (2, .int a2)], [], xw_R X s_57_0 t_size t_at t_fault t_from s_57_24 t_text a_59 a_60 a_61 p1 a_63 a_64 a_65 a_66 a_67 a_68 a_69 a_70 a_71 a_72 a_73 a_74 a_75 l_76) (.inl (some (.int r.1)), xw_R X s_57_0 t_size r.2.2.1 r.2.2.2.1 r.2.2.2.2 s_57_24 t_text a_59 a_60 a_61 r.2.1 a_63 a_64 a_65 a_66 a_67 a_68 a_69 a_70 a_71 a_72 a_73 a_74 a_75 l_76) := by
  intro p1 t_at t_fault t_from a2 r h
  unfold xf_rf_name at h
  refine xe_seg ok 4 (G := (fun K => if t_fault = ((-1 : Int32)) then K (42, xm_i42, xm_I42, 0, 0, 10, [(0, .ref 59), (1, .ref 64), (2, .int a2)], [], xw_R X s_57_0 t_size t_at t_fault t_from s_57_24 t_text a_59 a_60 a_61 p1 a_63 a_64 a_65 a_66 a_67 a_68 a_69 a_70 a_71 a_72 a_73 a_74 a_75 l_76) else K (42, xm_i42, xm_I42, 0, 0, 8, [(0, .ref 59), (1, .ref 64), (2, .int a2)], [], xw_R X s_57_0 t_size t_at t_fault t_from s_57_24 t_text a_59 a_60 a_61 p1 a_63 a_64 a_65 a_66 a_67 a_68 a_69 a_70 a_71 a_72 a_73 a_74 a_75 l_76))) (fun K => rfl) ?_
  rcases xb_if h with ⟨hc625, h⟩ | ⟨hc625, h⟩
  · refine xe_pos hc625 (xe_k ?_)
    refine xe_seg ok 2 (G := (fun K => xr_back K 42 xm_i42 xm_I42 0 0 11 [(0, .ref 59), (1, .ref 64), (2, .int a2)] [] 78 true (K (36, xm_i36, xm_I36, 0, 0, 0, [(0, .ref 59)], [], xw_R X s_57_0 t_size t_at t_fault t_from s_57_24 t_text a_59 a_60 a_61 p1 a_63 a_64 a_65 a_66 a_67 a_68 a_69 a_70 a_71 a_72 a_73 a_74 a_75 l_76)))) (fun K => rfl) ?_
    obtain ⟨q626, hq626, h⟩ := Option.bind_eq_some_iff.mp h
    have heq626 := xh_rf_peek_57 (l := l) (g := g) ok a_59 a_60 a_61 p1 a_63 a_64 a_65 a_66 a_67 a_68 a_69 a_70 a_71 a_72 a_73 a_74 a_75 l_76 s_57_0 t_fault t_from s_57_24 X t_size t_text n t_at _ hq626
    refine xe_call1 (ws' := xw_R X s_57_0 t_size q626.2 t_fault t_from s_57_24 t_text a_59 a_60 a_61 p1 a_63 a_64 a_65 a_66 a_67 a_68 a_69 a_70 a_71 a_72 a_73 a_74 a_75 l_76) (by decide) heq626 (Or.inl rfl) ?_
    refine xe_seg ok 5 (G := (fun K => K (42, xm_i42, xm_I42, 0, 0, 23, [(0, .ref 59), (1, .ref 64), (2, .int a2)], [], xw_R X s_57_0 t_size q626.2 t_fault q626.2 s_57_24 t_text a_59 a_60 a_61 p1 a_63 a_64 a_65 a_66 a_67 a_68 a_69 a_70 a_71 a_72 a_73 a_74 a_75 l_76))) (fun K => rfl) ?_
    refine xe_k ?_
    refine xe_sub [true, true, true] (lv' := [(0, .ref 59), (1, .ref 64), (2, .int a2)]) rfl ?_
    have hz := xh_rf_name_57_62_23 (l := l) (g := g) ok a_59 a_60 a_61 a_63 a_64 a_65 a_66 a_67 a_68 a_69 a_70 a_71 a_72 a_73 a_74 a_75 l_76 s_57_0 s_57_24 X t_size t_text n n p1 q626.2 t_fault q626.2 a2 _ h
    exact hz
  · refine xe_neg hc625 (xe_k ?_)
    obtain rfl := Option.some.inj h
    refine xe_seg ok 2 (G := (fun _ => some (.inl (some (.int ((0 : Int32)))), xw_R X s_57_0 t_size t_at t_fault t_from s_57_24 t_text a_59 a_60 a_61 p1 a_63 a_64 a_65 a_66 a_67 a_68 a_69 a_70 a_71 a_72 a_73 a_74 a_75 l_76))) (fun K => rfl) ?_
    exact xe_ret
set_option maxHeartbeats 400000 in
theorem xh_rf_isSame_62_62_38 {l : Launch} {g : xr_G} (ok : xr_OK xm_P) (a_58 a_59 a_60 a_61 a_63 a_64 a_65 a_66 a_67 a_68 a_69 a_70 a_71 a_72 a_73 a_74 a_75 : Nat → Int32) (l_76 : Nat → Int64) (s_57_0 s_57_1 s_57_18 s_57_19 s_57_20 s_57_24 : Int32) (X : Nat → xr_C) (p1 : (Nat → Int32)) {k6 : Int32 → Int32 → Int32 → Int32 → Int32 → Option (Int32)} (hk6 : ∀ (v1 : Int32) (v3 : Int32) (v4 : Int32) (v5 : Int32) (v6 : Int32) (r : (Int32)), k6 v1 v3 v4 v5 v6 = some r → xV xm_P l g (47, xm_i47, xm_I47, 0, 0, 6, [(0, .ref 64), (1, .int v1), (2, .ref 64), (3, .int v3), (4, .int v4), (5, .int v5), (6, .int v6)], [], xw_R X s_57_0 s_57_1 s_57_18 s_57_19 s_57_20 s_57_24 a_58 a_59 a_60 a_61 p1 a_63 a_64 a_65 a_66 a_67 a_68 a_69 a_70 a_71 a_72 a_73 a_74 a_75 l_76) (.inl (some (.int r)), xw_R X s_57_0 s_57_1 s_57_18 s_57_19 s_57_20 s_57_24 a_58 a_59 a_60 a_61 p1 a_63 a_64 a_65 a_66 a_67 a_68 a_69 a_70 a_71 a_72 a_73 a_74 a_75 l_76)) (n : Nat) : ∀ (v1 : Int32) (v3 : Int32) (v4 : Int32) (v6 : Int32) (s0 : Int32) (r : (Int32)), xf_rf_isSame_38 p1 p1 192 192 k6 n v1 v3 v4 v6 s0 = some r → xV xm_P l g (47, xm_i47, xm_I47, 0, 0, 38, [(0, .ref 64), (1, .int v1), (2, .ref 64), (3, .int v3), (4, .int v4), (6, .int v6)], [.int s0], xw_R X s_57_0 s_57_1 s_57_18 s_57_19 s_57_20 s_57_24 a_58 a_59 a_60 a_61 p1 a_63 a_64 a_65 a_66 a_67 a_68 a_69 a_70 a_71 a_72 a_73 a_74 a_75 l_76) (.inl (some (.int r)), xw_R X s_57_0 s_57_1 s_57_18 s_57_19 s_57_20 s_57_24 a_58 a_59 a_60 a_61 p1 a_63 a_64 a_65 a_66 a_67 a_68 a_69 a_70 a_71 a_72 a_73 a_74 a_75 l_76) := by
  intro v1 v3 v4 v6 s0 r h
  unfold xf_rf_isSame_38 at h
  refine xe_seg ok 3 (G := (fun K => K (47, xm_i47, xm_I47, 0, 0, 6, [(0, .ref 64), (1, .int v1), (2, .ref 64), (3, .int v3), (4, .int v4), (5, .int s0), (6, .int (v6 + (1 : Int32)))], [], xw_R X s_57_0 s_57_1 s_57_18 s_57_19 s_57_20 s_57_24 a_58 a_59 a_60 a_61 p1 a_63 a_64 a_65 a_66 a_67 a_68 a_69 a_70 a_71 a_72 a_73 a_74 a_75 l_76))) (fun K => rfl) ?_
  refine xe_k ?_
  refine xe_sub [true, true, true, true, true, true, true] (lv' := [(0, .ref 64), (1, .int v1), (2, .ref 64), (3, .int v3), (4, .int v4), (5, .int s0), (6, .int (v6 + (1 : Int32)))]) rfl ?_
  have hz := hk6 v1 v3 v4 s0 (v6 + (1 : Int32)) _ h
  exact hz
set_option maxHeartbeats 400000 in
theorem xh_rf_isSame_62_62_37 {l : Launch} {g : xr_G} (ok : xr_OK xm_P) (a_58 a_59 a_60 a_61 a_63 a_64 a_65 a_66 a_67 a_68 a_69 a_70 a_71 a_72 a_73 a_74 a_75 : Nat → Int32) (l_76 : Nat → Int64) (s_57_0 s_57_1 s_57_18 s_57_19 s_57_20 s_57_24 : Int32) (X : Nat → xr_C) (p1 : (Nat → Int32)) {k6 : Int32 → Int32 → Int32 → Int32 → Int32 → Option (Int32)} (hk6 : ∀ (v1 : Int32) (v3 : Int32) (v4 : Int32) (v5 : Int32) (v6 : Int32) (r : (Int32)), k6 v1 v3 v4 v5 v6 = some r → xV xm_P l g (47, xm_i47, xm_I47, 0, 0, 6, [(0, .ref 64), (1, .int v1), (2, .ref 64), (3, .int v3), (4, .int v4), (5, .int v5), (6, .int v6)], [], xw_R X s_57_0 s_57_1 s_57_18 s_57_19 s_57_20 s_57_24 a_58 a_59 a_60 a_61 p1 a_63 a_64 a_65 a_66 a_67 a_68 a_69 a_70 a_71 a_72 a_73 a_74 a_75 l_76) (.inl (some (.int r)), xw_R X s_57_0 s_57_1 s_57_18 s_57_19 s_57_20 s_57_24 a_58 a_59 a_60 a_61 p1 a_63 a_64 a_65 a_66 a_67 a_68 a_69 a_70 a_71 a_72 a_73 a_74 a_75 l_76)) (n : Nat) : ∀ (v1 : Int32) (v3 : Int32) (v4 : Int32) (v6 : Int32) (r : (Int32)), xf_rf_isSame_37 p1 p1 192 192 k6 n v1 v3 v4 v6 = some r → xV xm_P l g (47, xm_i47, xm_I47, 0, 0, 37, [(0, .ref 64), (1, .int v1), (2, .ref 64), (3, .int v3), (4, .int v4), (6, .int v6)], [], xw_R X s_57_0 s_57_1 s_57_18 s_57_19 s_57_20 s_57_24 a_58 a_59 a_60 a_61 p1 a_63 a_64 a_65 a_66 a_67 a_68 a_69 a_70 a_71 a_72 a_73 a_74 a_75 l_76) (.inl (some (.int r)), xw_R X s_57_0 s_57_1 s_57_18 s_57_19 s_57_20 s_57_24 a_58 a_59 a_60 a_61 p1 a_63 a_64 a_65 a_66 a_67 a_68 a_69 a_70 a_71 a_72 a_73 a_74 a_75 l_76) := by
  intro v1 v3 v4 v6 r h
  unfold xf_rf_isSame_37 at h
  refine xe_seg ok 1 (G := (fun K => K (47, xm_i47, xm_I47, 0, 0, 38, [(0, .ref 64), (1, .int v1), (2, .ref 64), (3, .int v3), (4, .int v4), (6, .int v6)], [.int ((0 : Int32))], xw_R X s_57_0 s_57_1 s_57_18 s_57_19 s_57_20 s_57_24 a_58 a_59 a_60 a_61 p1 a_63 a_64 a_65 a_66 a_67 a_68 a_69 a_70 a_71 a_72 a_73 a_74 a_75 l_76))) (fun K => rfl) ?_
  refine xe_k ?_
  refine xe_sub [true, true, true, true, true, true] (lv' := [(0, .ref 64), (1, .int v1), (2, .ref 64), (3, .int v3), (4, .int v4), (6, .int v6)]) rfl ?_
  have hz := xh_rf_isSame_62_62_38 (l := l) (g := g) ok a_58 a_59 a_60 a_61 a_63 a_64 a_65 a_66 a_67 a_68 a_69 a_70 a_71 a_72 a_73 a_74 a_75 l_76 s_57_0 s_57_1 s_57_18 s_57_19 s_57_20 s_57_24 X p1 hk6 n v1 v3 v4 v6 ((0 : Int32)) _ h
  exact hz
set_option maxHeartbeats 400000 in
theorem xh_rf_isSame_62_62_6 {l : Launch} {g : xr_G} (ok : xr_OK xm_P) (a_58 a_59 a_60 a_61 a_63 a_64 a_65 a_66 a_67 a_68 a_69 a_70 a_71 a_72 a_73 a_74 a_75 : Nat → Int32) (l_76 : Nat → Int64) (s_57_0 s_57_1 s_57_18 s_57_19 s_57_20 s_57_24 : Int32) (X : Nat → xr_C) (p1 : (Nat → Int32)) (n : Nat) : ∀ (N : Nat) (v1 : Int32) (v3 : Int32) (v4 : Int32) (v5 : Int32) (v6 : Int32) (r : (Int32)), xf_rf_isSame_6 p1 p1 192 192 n N v1 v3 v4 v5 v6 = some r → xV xm_P l g (47, xm_i47, xm_I47, 0, 0, 6, [(0, .ref 64), (1, .int v1), (2, .ref 64), (3, .int v3), (4, .int v4), (5, .int v5), (6, .int v6)], [], xw_R X s_57_0 s_57_1 s_57_18 s_57_19 s_57_20 s_57_24 a_58 a_59 a_60 a_61 p1 a_63 a_64 a_65 a_66 a_67 a_68 a_69 a_70 a_71 a_72 a_73 a_74 a_75 l_76) (.inl (some (.int r)), xw_R X s_57_0 s_57_1 s_57_18 s_57_19 s_57_20 s_57_24 a_58 a_59 a_60 a_61 p1 a_63 a_64 a_65 a_66 a_67 a_68 a_69 a_70 a_71 a_72 a_73 a_74 a_75 l_76) := by
  intro N
  induction N with
  | zero => intro v1 v3 v4 v5 v6 r h; cases h
  | succ N hk6 =>
    intro v1 v3 v4 v5 v6 r h
    refine xe_seg ok 3 (G := (fun K => if v6 < v4 then K (47, xm_i47, xm_I47, 0, 0, 13, [(0, .ref 64), (1, .int v1), (2, .ref 64), (3, .int v3), (4, .int v4), (5, .int v5), (6, .int v6)], [], xw_R X s_57_0 s_57_1 s_57_18 s_57_19 s_57_20 s_57_24 a_58 a_59 a_60 a_61 p1 a_63 a_64 a_65 a_66 a_67 a_68 a_69 a_70 a_71 a_72 a_73 a_74 a_75 l_76) else K (47, xm_i47, xm_I47, 0, 0, 46, [(0, .ref 64), (1, .int v1), (2, .ref 64), (3, .int v3), (4, .int v4), (5, .int v5), (6, .int v6)], [], xw_R X s_57_0 s_57_1 s_57_18 s_57_19 s_57_20 s_57_24 a_58 a_59 a_60 a_61 p1 a_63 a_64 a_65 a_66 a_67 a_68 a_69 a_70 a_71 a_72 a_73 a_74 a_75 l_76))) (fun K => rfl) ?_
    rcases xb_if h with ⟨hc647, h⟩ | ⟨hc647, h⟩
    · refine xe_pos hc647 (xe_k ?_)
      refine xe_seg ok 2 (G := (fun K => if v5 = (0 : Int32) then K (47, xm_i47, xm_I47, 0, 0, 37, [(0, .ref 64), (1, .int v1), (2, .ref 64), (3, .int v3), (4, .int v4), (5, .int v5), (6, .int v6)], [], xw_R X s_57_0 s_57_1 s_57_18 s_57_19 s_57_20 s_57_24 a_58 a_59 a_60 a_61 p1 a_63 a_64 a_65 a_66 a_67 a_68 a_69 a_70 a_71 a_72 a_73 a_74 a_75 l_76) else K (47, xm_i47, xm_I47, 0, 0, 18, [(0, .ref 64), (1, .int v1), (2, .ref 64), (3, .int v3), (4, .int v4), (5, .int v5), (6, .int v6)], [], xw_R X s_57_0 s_57_1 s_57_18 s_57_19 s_57_20 s_57_24 a_58 a_59 a_60 a_61 p1 a_63 a_64 a_65 a_66 a_67 a_68 a_69 a_70 a_71 a_72 a_73 a_74 a_75 l_76))) (fun K => rfl) ?_
      rcases xb_if h with ⟨hc648, h⟩ | ⟨hc648, h⟩
      · refine xe_pos hc648 (xe_k ?_)
        refine xe_sub [true, true, true, true, true, false, true] (lv' := [(0, .ref 64), (1, .int v1), (2, .ref 64), (3, .int v3), (4, .int v4), (6, .int v6)]) rfl ?_
        have hz := xh_rf_isSame_62_62_37 (l := l) (g := g) ok a_58 a_59 a_60 a_61 a_63 a_64 a_65 a_66 a_67 a_68 a_69 a_70 a_71 a_72 a_73 a_74 a_75 l_76 s_57_0 s_57_1 s_57_18 s_57_19 s_57_20 s_57_24 X p1 hk6 n v1 v3 v4 v6 _ h
        exact hz
      · refine xe_neg hc648 (xe_k ?_)
        refine xe_seg ok 5 (G := (fun K => if xr_in (v1 + v6) 192 = true then K (47, xm_i47, xm_I47, 0, 0, 24, [(0, .ref 64), (1, .int v1), (2, .ref 64), (3, .int v3), (4, .int v4), (5, .int v5), (6, .int v6)], [.int (p1 (v1 + v6).toNatClampNeg)], xw_R X s_57_0 s_57_1 s_57_18 s_57_19 s_57_20 s_57_24 a_58 a_59 a_60 a_61 p1 a_63 a_64 a_65 a_66 a_67 a_68 a_69 a_70 a_71 a_72 a_73 a_74 a_75 l_76) else none)) (fun K => rfl) ?_
        obtain ⟨hg649, h⟩ := xn_if h
        refine xe_pos hg649 (xe_k ?_)
        refine xe_seg ok 5 (G := (fun K => if xr_in (v3 + v6) 192 = true then K (47, xm_i47, xm_I47, 0, 0, 30, [(0, .ref 64), (1, .int v1), (2, .ref 64), (3, .int v3), (4, .int v4), (5, .int v5), (6, .int v6)], [.int (p1 (v3 + v6).toNatClampNeg), .int (p1 (v1 + v6).toNatClampNeg)], xw_R X s_57_0 s_57_1 s_57_18 s_57_19 s_57_20 s_57_24 a_58 a_59 a_60 a_61 p1 a_63 a_64 a_65 a_66 a_67 a_68 a_69 a_70 a_71 a_72 a_73 a_74 a_75 l_76) else none)) (fun K => rfl) ?_
        obtain ⟨hg650, h⟩ := xn_if h
        refine xe_pos hg650 (xe_k ?_)
        refine xe_seg ok 1 (G := (fun K => if (p1 (v1 + v6).toNatClampNeg) = (p1 (v3 + v6).toNatClampNeg) then K (47, xm_i47, xm_I47, 0, 0, 33, [(0, .ref 64), (1, .int v1), (2, .ref 64), (3, .int v3), (4, .int v4), (5, .int v5), (6, .int v6)], [], xw_R X s_57_0 s_57_1 s_57_18 s_57_19 s_57_20 s_57_24 a_58 a_59 a_60 a_61 p1 a_63 a_64 a_65 a_66 a_67 a_68 a_69 a_70 a_71 a_72 a_73 a_74 a_75 l_76) else K (47, xm_i47, xm_I47, 0, 0, 37, [(0, .ref 64), (1, .int v1), (2, .ref 64), (3, .int v3), (4, .int v4), (5, .int v5), (6, .int v6)], [], xw_R X s_57_0 s_57_1 s_57_18 s_57_19 s_57_20 s_57_24 a_58 a_59 a_60 a_61 p1 a_63 a_64 a_65 a_66 a_67 a_68 a_69 a_70 a_71 a_72 a_73 a_74 a_75 l_76))) (fun K => rfl) ?_
        rcases xb_if h with ⟨hc651, h⟩ | ⟨hc651, h⟩
        · refine xe_pos hc651 (xe_k ?_)
          refine xe_seg ok 2 (G := (fun K => K (47, xm_i47, xm_I47, 0, 0, 38, [(0, .ref 64), (1, .int v1), (2, .ref 64), (3, .int v3), (4, .int v4), (5, .int v5), (6, .int v6)], [.int ((1 : Int32))], xw_R X s_57_0 s_57_1 s_57_18 s_57_19 s_57_20 s_57_24 a_58 a_59 a_60 a_61 p1 a_63 a_64 a_65 a_66 a_67 a_68 a_69 a_70 a_71 a_72 a_73 a_74 a_75 l_76))) (fun K => rfl) ?_
          refine xe_k ?_
          refine xe_sub [true, true, true, true, true, false, true] (lv' := [(0, .ref 64), (1, .int v1), (2, .ref 64), (3, .int v3), (4, .int v4), (6, .int v6)]) rfl ?_
          have hz := xh_rf_isSame_62_62_38 (l := l) (g := g) ok a_58 a_59 a_60 a_61 a_63 a_64 a_65 a_66 a_67 a_68 a_69 a_70 a_71 a_72 a_73 a_74 a_75 l_76 s_57_0 s_57_1 s_57_18 s_57_19 s_57_20 s_57_24 X p1 hk6 n v1 v3 v4 v6 ((1 : Int32)) _ h
          exact hz
        · refine xe_neg hc651 (xe_k ?_)
          refine xe_sub [true, true, true, true, true, false, true] (lv' := [(0, .ref 64), (1, .int v1), (2, .ref 64), (3, .int v3), (4, .int v4), (6, .int v6)]) rfl ?_
          have hz := xh_rf_isSame_62_62_37 (l := l) (g := g) ok a_58 a_59 a_60 a_61 a_63 a_64 a_65 a_66 a_67 a_68 a_69 a_70 a_71 a_72 a_73 a_74 a_75 l_76 s_57_0 s_57_1 s_57_18 s_57_19 s_57_20 s_57_24 X p1 hk6 n v1 v3 v4 v6 _ h
          exact hz
    · refine xe_neg hc647 (xe_k ?_)
      refine xe_seg ok 2 (G := (fun _ => if fits .boolean (.int v5) = true then some (.inl (some (.int v5)), xw_R X s_57_0 s_57_1 s_57_18 s_57_19 s_57_20 s_57_24 a_58 a_59 a_60 a_61 p1 a_63 a_64 a_65 a_66 a_67 a_68 a_69 a_70 a_71 a_72 a_73 a_74 a_75 l_76) else none)) (fun K => rfl) ?_
      obtain ⟨hg652, h⟩ := xn_if h
      obtain rfl := Option.some.inj h
      exact xe_pos (A := fun _ => some (.inl (some (.int v5)), xw_R X s_57_0 s_57_1 s_57_18 s_57_19 s_57_20 s_57_24 a_58 a_59 a_60 a_61 p1 a_63 a_64 a_65 a_66 a_67 a_68 a_69 a_70 a_71 a_72 a_73 a_74 a_75 l_76)) (B := fun _ => none) hg652 xe_ret
set_option maxHeartbeats 400000 in
theorem xh_rf_isSame_62_62 {l : Launch} {g : xr_G} (ok : xr_OK xm_P) (a_58 a_59 a_60 a_61 a_63 a_64 a_65 a_66 a_67 a_68 a_69 a_70 a_71 a_72 a_73 a_74 a_75 : Nat → Int32) (l_76 : Nat → Int64) (s_57_0 s_57_1 s_57_18 s_57_19 s_57_20 s_57_24 : Int32) (X : Nat → xr_C) (p1 : (Nat → Int32)) (n : Nat) : ∀ (a2 : Int32) (a4 : Int32) (a5 : Int32) (r : (Int32)), xf_rf_isSame p1 p1 192 192 n a2 a4 a5 = some r → xV xm_P l g (47, xm_i47, xm_I47, 0, 0, 0, [(0, .ref 64), (1, .int a2), (2, .ref 64), (3, .int a4), (4, .int a5)], [], xw_R X s_57_0 s_57_1 s_57_18 s_57_19 s_57_20 s_57_24 a_58 a_59 a_60 a_61 p1 a_63 a_64 a_65 a_66 a_67 a_68 a_69 a_70 a_71 a_72 a_73 a_74 a_75 l_76) (.inl (some (.int r)), xw_R X s_57_0 s_57_1 s_57_18 s_57_19 s_57_20 s_57_24 a_58 a_59 a_60 a_61 p1 a_63 a_64 a_65 a_66 a_67 a_68 a_69 a_70 a_71 a_72 a_73 a_74 a_75 l_76) := by
  intro a2 a4 a5 r h
  unfold xf_rf_isSame at h
  refine xe_seg ok 4 (G := (fun K => K (47, xm_i47, xm_I47, 0, 0, 6, [(0, .ref 64), (1, .int a2), (2, .ref 64), (3, .int a4), (4, .int a5), (5, .int ((1 : Int32))), (6, .int ((0 : Int32)))], [], xw_R X s_57_0 s_57_1 s_57_18 s_57_19 s_57_20 s_57_24 a_58 a_59 a_60 a_61 p1 a_63 a_64 a_65 a_66 a_67 a_68 a_69 a_70 a_71 a_72 a_73 a_74 a_75 l_76))) (fun K => rfl) ?_
  refine xe_k ?_
  refine xe_sub [true, true, true, true, true, true, true] (lv' := [(0, .ref 64), (1, .int a2), (2, .ref 64), (3, .int a4), (4, .int a5), (5, .int ((1 : Int32))), (6, .int ((0 : Int32)))]) rfl ?_
  have hz := xh_rf_isSame_62_62_6 (l := l) (g := g) ok a_58 a_59 a_60 a_61 a_63 a_64 a_65 a_66 a_67 a_68 a_69 a_70 a_71 a_72 a_73 a_74 a_75 l_76 s_57_0 s_57_1 s_57_18 s_57_19 s_57_20 s_57_24 X p1 n n a2 a4 a5 ((1 : Int32)) ((0 : Int32)) _ h
  exact hz
set_option maxHeartbeats 400000 in
theorem xh_rf_kind_57_107 {l : Launch} {g : xr_G} (ok : xr_OK xm_P) (a_59 a_66 a_67 a_68 a_69 a_70 a_71 a_72 a_73 a_74 a_75 : Nat → Int32) (l_76 : Nat → Int64) (s_57_0 s_57_24 : Int32) (X : Nat → xr_C) (t_size : Int32) (t_text : (Nat → Int32)) {k51 : Int32 → Int32 → Int32 → (Nat → Int32) → (Nat → Int32) → (Nat → Int32) → (Nat → Int32) → (Nat → Int32) → (Nat → Int32) → Int32 → Int32 → Option (Unit × Int32 × Int32 × Int32 × (Nat → Int32) × (Nat → Int32) × (Nat → Int32) × (Nat → Int32) × (Nat → Int32) × (Nat → Int32))} (hk51 : ∀ (t_at : Int32) (t_fault : Int32) (t_from : Int32) (t_kindLetters : (Nat → Int32)) (t_kindMay : (Nat → Int32)) (t_kindNames : (Nat → Int32)) (t_kindParts : (Nat → Int32)) (t_kindSorts : (Nat → Int32)) (t_kinds : (Nat → Int32)) (v1 : Int32) (v2 : Int32) (r : (Unit × Int32 × Int32 × Int32 × (Nat → Int32) × (Nat → Int32) × (Nat → Int32) × (Nat → Int32) × (Nat → Int32) × (Nat → Int32))), k51 t_at t_fault t_from t_kindLetters t_kindMay t_kindNames t_kindParts t_kindSorts t_kinds v1 v2 = some r → xV xm_P l g (48, xm_i48, xm_I48, 0, 0, 51, [(0, .ref 59), (1, .int v1), (2, .int v2)], [], xw_R X s_57_0 t_size t_at t_fault t_from s_57_24 t_text a_59 t_kinds t_kindLetters t_kindNames t_kindParts t_kindSorts t_kindMay a_66 a_67 a_68 a_69 a_70 a_71 a_72 a_73 a_74 a_75 l_76) (.inl none, xw_R X s_57_0 t_size r.2.1 r.2.2.1 r.2.2.2.1 s_57_24 t_text a_59 r.2.2.2.2.2.2.2.2.2 r.2.2.2.2.1 r.2.2.2.2.2.2.1 r.2.2.2.2.2.2.2.1 r.2.2.2.2.2.2.2.2.1 r.2.2.2.2.2.1 a_66 a_67 a_68 a_69 a_70 a_71 a_72 a_73 a_74 a_75 l_76)) (n : Nat) : ∀ (t_at : Int32) (t_fault : Int32) (t_from : Int32) (t_kindLetters : (Nat → Int32)) (t_kindMay : (Nat → Int32)) (t_kindNames : (Nat → Int32)) (t_kindParts : (Nat → Int32)) (t_kindSorts : (Nat → Int32)) (t_kinds : (Nat → Int32)) (v1 : Int32) (v2 : Int32) (r : (Unit × Int32 × Int32 × Int32 × (Nat → Int32) × (Nat → Int32) × (Nat → Int32) × (Nat → Int32) × (Nat → Int32) × (Nat → Int32))), xf_rf_kind_107 t_size t_text k51 n t_at t_fault t_from t_kindLetters t_kindMay t_kindNames t_kindParts t_kindSorts t_kinds v1 v2 = some r → xV xm_P l g (48, xm_i48, xm_I48, 0, 0, 107, [(0, .ref 59), (1, .int v1), (2, .int v2)], [], xw_R X s_57_0 t_size t_at t_fault t_from s_57_24 t_text a_59 t_kinds t_kindLetters t_kindNames t_kindParts t_kindSorts t_kindMay a_66 a_67 a_68 a_69 a_70 a_71 a_72 a_73 a_74 a_75 l_76) (.inl none, xw_R X s_57_0 t_size r.2.1 r.2.2.1 r.2.2.2.1 s_57_24 t_text a_59 r.2.2.2.2.2.2.2.2.2 r.2.2.2.2.1 r.2.2.2.2.2.2.1 r.2.2.2.2.2.2.2.1 r.2.2.2.2.2.2.2.2.1 r.2.2.2.2.2.1 a_66 a_67 a_68 a_69 a_70 a_71 a_72 a_73 a_74 a_75 l_76) := by
  intro t_at t_fault t_from t_kindLetters t_kindMay t_kindNames t_kindParts t_kindSorts t_kinds v1 v2 r h
  unfold xf_rf_kind_107 at h
  refine xe_seg ok 2 (G := (fun K => K (48, xm_i48, xm_I48, 0, 0, 51, [(0, .ref 59), (1, .int v1), (2, .int (v2 + (1 : Int32)))], [], xw_R X s_57_0 t_size t_at t_fault t_from s_57_24 t_text a_59 t_kinds t_kindLetters t_kindNames t_kindParts t_kindSorts t_kindMay a_66 a_67 a_68 a_69 a_70 a_71 a_72 a_73 a_74 a_75 l_76))) (fun K => rfl) ?_
  refine xe_k ?_
  refine xe_sub [true, true, true] (lv' := [(0, .ref 59), (1, .int v1), (2, .int (v2 + (1 : Int32)))]) rfl ?_
  have hz := hk51 t_at t_fault t_from t_kindLetters t_kindMay t_kindNames t_kindParts t_kindSorts t_kinds v1 (v2 + (1 : Int32)) _ h
  exact hz
set_option maxHeartbeats 400000 in
theorem xh_rf_sign_57_38 {l : Launch} {g : xr_G} (ok : xr_OK xm_P) (a_59 a_60 a_61 a_62 a_63 a_64 a_65 a_66 a_67 a_68 a_69 a_70 a_71 a_72 a_73 a_74 a_75 : Nat → Int32) (l_76 : Nat → Int64) (s_57_0 s_57_20 s_57_24 : Int32) (X : Nat → xr_C) (t_size : Int32) (t_text : (Nat → Int32)) (n : Nat) : ∀ (t_at : Int32) (t_fault : Int32) (r : (Unit × Int32 × Int32)), xf_rf_sign_38 t_size t_text n t_at t_fault = some r → xV xm_P l g (40, xm_i40, xm_I40, 0, 0, 38, [], [], xw_R X s_57_0 t_size t_at t_fault s_57_20 s_57_24 t_text a_59 a_60 a_61 a_62 a_63 a_64 a_65 a_66 a_67 a_68 a_69 a_70 a_71 a_72 a_73 a_74 a_75 l_76) (.inl none, xw_R X s_57_0 t_size r.2.1 r.2.2 s_57_20 s_57_24 t_text a_59 a_60 a_61 a_62 a_63 a_64 a_65 a_66 a_67 a_68 a_69 a_70 a_71 a_72 a_73 a_74 a_75 l_76) := by
  intro t_at t_fault r h
  unfold xf_rf_sign_38 at h
  obtain rfl := Option.some.inj h
  refine xe_seg ok 1 (G := (fun _ => some (.inl none, xw_R X s_57_0 t_size t_at t_fault s_57_20 s_57_24 t_text a_59 a_60 a_61 a_62 a_63 a_64 a_65 a_66 a_67 a_68 a_69 a_70 a_71 a_72 a_73 a_74 a_75 l_76))) (fun K => rfl) ?_
  exact xe_ret
set_option maxHeartbeats 400000 in
theorem xh_rf_sign_57 {l : Launch} {g : xr_G} (ok : xr_OK xm_P) (a_59 a_60 a_61 a_62 a_63 a_64 a_65 a_66 a_67 a_68 a_69 a_70 a_71 a_72 a_73 a_74 a_75 : Nat → Int32) (l_76 : Nat → Int64) (s_57_0 s_57_20 s_57_24 : Int32) (X : Nat → xr_C) (t_size : Int32) (t_text : (Nat → Int32)) (n : Nat) : ∀ (t_at : Int32) (t_fault : Int32) (a1 : Int32) (r : (Unit × Int32 × Int32)), xf_rf_sign t_size t_text n t_at t_fault a1 = some r → xV xm_P l g (40, xm_i40, xm_I40, 0, 0, 0, [(0, .ref 59), (1, .int a1)], [], xw_R X s_57_0 t_size t_at t_fault s_57_20 s_57_24 t_text a_59 a_60 a_61 a_62 a_63 a_64 a_65 a_66 a_67 a_68 a_69 a_70 a_71 a_72 a_73 a_74 a_75 l_76) (.inl none, xw_R X s_57_0 t_size r.2.1 r.2.2 s_57_20 s_57_24 t_text a_59 a_60 a_61 a_62 a_63 a_64 a_65 a_66 a_67 a_68 a_69 a_70 a_71 a_72 a_73 a_74 a_75 l_76) := by
  intro t_at t_fault a1 r h
  unfold xf_rf_sign at h
  refine xe_seg ok 4 (G := (fun K => if t_fault = ((-1 : Int32)) then K (40, xm_i40, xm_I40, 0, 0, 9, [(0, .ref 59), (1, .int a1)], [], xw_R X s_57_0 t_size t_at t_fault s_57_20 s_57_24 t_text a_59 a_60 a_61 a_62 a_63 a_64 a_65 a_66 a_67 a_68 a_69 a_70 a_71 a_72 a_73 a_74 a_75 l_76) else K (40, xm_i40, xm_I40, 0, 0, 8, [(0, .ref 59), (1, .int a1)], [], xw_R X s_57_0 t_size t_at t_fault s_57_20 s_57_24 t_text a_59 a_60 a_61 a_62 a_63 a_64 a_65 a_66 a_67 a_68 a_69 a_70 a_71 a_72 a_73 a_74 a_75 l_76))) (fun K => rfl) ?_
  rcases xb_if h with ⟨hc656, h⟩ | ⟨hc656, h⟩
  · refine xe_pos hc656 (xe_k ?_)
    refine xe_seg ok 2 (G := (fun K => xr_back K 40 xm_i40 xm_I40 0 0 10 [(0, .ref 59), (1, .int a1)] [] 78 true (K (36, xm_i36, xm_I36, 0, 0, 0, [(0, .ref 59)], [], xw_R X s_57_0 t_size t_at t_fault s_57_20 s_57_24 t_text a_59 a_60 a_61 a_62 a_63 a_64 a_65 a_66 a_67 a_68 a_69 a_70 a_71 a_72 a_73 a_74 a_75 l_76)))) (fun K => rfl) ?_
    obtain ⟨q657, hq657, h⟩ := Option.bind_eq_some_iff.mp h
    have heq657 := xh_rf_peek_57 (l := l) (g := g) ok a_59 a_60 a_61 a_62 a_63 a_64 a_65 a_66 a_67 a_68 a_69 a_70 a_71 a_72 a_73 a_74 a_75 l_76 s_57_0 t_fault s_57_20 s_57_24 X t_size t_text n t_at _ hq657
    refine xe_call1 (ws' := xw_R X s_57_0 t_size q657.2 t_fault s_57_20 s_57_24 t_text a_59 a_60 a_61 a_62 a_63 a_64 a_65 a_66 a_67 a_68 a_69 a_70 a_71 a_72 a_73 a_74 a_75 l_76) (by decide) heq657 (Or.inl rfl) ?_
    refine xe_seg ok 2 (G := (fun K => if q657.1 = a1 then K (40, xm_i40, xm_I40, 0, 0, 17, [(0, .ref 59), (1, .int a1)], [], xw_R X s_57_0 t_size q657.2 t_fault s_57_20 s_57_24 t_text a_59 a_60 a_61 a_62 a_63 a_64 a_65 a_66 a_67 a_68 a_69 a_70 a_71 a_72 a_73 a_74 a_75 l_76) else K (40, xm_i40, xm_I40, 0, 0, 30, [(0, .ref 59), (1, .int a1)], [], xw_R X s_57_0 t_size q657.2 t_fault s_57_20 s_57_24 t_text a_59 a_60 a_61 a_62 a_63 a_64 a_65 a_66 a_67 a_68 a_69 a_70 a_71 a_72 a_73 a_74 a_75 l_76))) (fun K => rfl) ?_
    rcases xb_if h with ⟨hc658, h⟩ | ⟨hc658, h⟩
    · refine xe_pos hc658 (xe_k ?_)
      refine xe_seg ok 7 (G := (fun K => K (40, xm_i40, xm_I40, 0, 0, 38, [(0, .ref 59), (1, .int a1)], [], xw_R X s_57_0 t_size (q657.2 + ((1 : Int32))) t_fault s_57_20 s_57_24 t_text a_59 a_60 a_61 a_62 a_63 a_64 a_65 a_66 a_67 a_68 a_69 a_70 a_71 a_72 a_73 a_74 a_75 l_76))) (fun K => rfl) ?_
      refine xe_k ?_
      refine xe_sub [false, false] (lv' := []) rfl ?_
      have hz := xh_rf_sign_57_38 (l := l) (g := g) ok a_59 a_60 a_61 a_62 a_63 a_64 a_65 a_66 a_67 a_68 a_69 a_70 a_71 a_72 a_73 a_74 a_75 l_76 s_57_0 s_57_20 s_57_24 X t_size t_text n (q657.2 + ((1 : Int32))) t_fault _ h
      exact hz
    · refine xe_neg hc658 (xe_k ?_)
      refine xe_seg ok 4 (G := (fun K => xr_back K 40 xm_i40 xm_I40 0 0 35 [(0, .ref 59), (1, .int a1)] [] 78 true (K (39, xm_i39, xm_I39, 0, 0, 0, [(0, .ref 59), (1, .int q657.2)], [], xw_R X s_57_0 t_size q657.2 t_fault s_57_20 s_57_24 t_text a_59 a_60 a_61 a_62 a_63 a_64 a_65 a_66 a_67 a_68 a_69 a_70 a_71 a_72 a_73 a_74 a_75 l_76)))) (fun K => rfl) ?_
      obtain ⟨q659, hq659, h⟩ := Option.bind_eq_some_iff.mp h
      have heq659 := xh_rf_wrongAt_57 (l := l) (g := g) ok t_text a_59 a_60 a_61 a_62 a_63 a_64 a_65 a_66 a_67 a_68 a_69 a_70 a_71 a_72 a_73 a_74 a_75 l_76 s_57_0 t_size q657.2 s_57_20 s_57_24 X t_fault q657.2 _ hq659
      refine xe_call0 (ws' := xw_R X s_57_0 t_size q657.2 q659.2 s_57_20 s_57_24 t_text a_59 a_60 a_61 a_62 a_63 a_64 a_65 a_66 a_67 a_68 a_69 a_70 a_71 a_72 a_73 a_74 a_75 l_76) (by decide) heq659 (Or.inl rfl) ?_
      refine xe_sub [false, false] (lv' := []) rfl ?_
      have hz := xh_rf_sign_57_38 (l := l) (g := g) ok a_59 a_60 a_61 a_62 a_63 a_64 a_65 a_66 a_67 a_68 a_69 a_70 a_71 a_72 a_73 a_74 a_75 l_76 s_57_0 s_57_20 s_57_24 X t_size t_text n q657.2 q659.2 _ h
      exact hz
  · refine xe_neg hc656 (xe_k ?_)
    obtain rfl := Option.some.inj h
    refine xe_seg ok 1 (G := (fun _ => some (.inl none, xw_R X s_57_0 t_size t_at t_fault s_57_20 s_57_24 t_text a_59 a_60 a_61 a_62 a_63 a_64 a_65 a_66 a_67 a_68 a_69 a_70 a_71 a_72 a_73 a_74 a_75 l_76))) (fun K => rfl) ?_
    exact xe_ret
set_option maxHeartbeats 400000 in
theorem xh_rf_kind_57_265 {l : Launch} {g : xr_G} (ok : xr_OK xm_P) (a_59 a_66 a_67 a_68 a_69 a_70 a_71 a_72 a_73 a_74 a_75 : Nat → Int32) (l_76 : Nat → Int64) (s_57_0 s_57_24 : Int32) (X : Nat → xr_C) (t_size : Int32) (t_text : (Nat → Int32)) (n : Nat) : ∀ (t_at : Int32) (t_fault : Int32) (t_from : Int32) (t_kindLetters : (Nat → Int32)) (t_kindMay : (Nat → Int32)) (t_kindNames : (Nat → Int32)) (t_kindParts : (Nat → Int32)) (t_kindSorts : (Nat → Int32)) (t_kinds : (Nat → Int32)) (v1 : Int32) (v2 : Int32) (r : (Unit × Int32 × Int32 × Int32 × (Nat → Int32) × (Nat → Int32) × (Nat → Int32) × (Nat → Int32) × (Nat → Int32) × (Nat → Int32))), xf_rf_kind_265 t_size t_text n t_at t_fault t_from t_kindLetters t_kindMay t_kindNames t_kindParts t_kindSorts t_kinds v1 v2 = some r → xV xm_P l g (48, xm_i48, xm_I48, 0, 0, 265, [(0, .ref 59), (1, .int v1), (2, .int v2)], [], xw_R X s_57_0 t_size t_at t_fault t_from s_57_24 t_text a_59 t_kinds t_kindLetters t_kindNames t_kindParts t_kindSorts t_kindMay a_66 a_67 a_68 a_69 a_70 a_71 a_72 a_73 a_74 a_75 l_76) (.inl none, xw_R X s_57_0 t_size r.2.1 r.2.2.1 r.2.2.2.1 s_57_24 t_text a_59 r.2.2.2.2.2.2.2.2.2 r.2.2.2.2.1 r.2.2.2.2.2.2.1 r.2.2.2.2.2.2.2.1 r.2.2.2.2.2.2.2.2.1 r.2.2.2.2.2.1 a_66 a_67 a_68 a_69 a_70 a_71 a_72 a_73 a_74 a_75 l_76) := by
  intro t_at t_fault t_from t_kindLetters t_kindMay t_kindNames t_kindParts t_kindSorts t_kinds v1 v2 r h
  unfold xf_rf_kind_265 at h
  refine xe_seg ok 5 (G := (fun K => if xr_in v1 24 = true then K (48, xm_i48, xm_I48, 0, 0, 272, [(0, .ref 59), (1, .int v1), (2, .int v2)], [], xw_R X s_57_0 t_size t_at t_fault t_from s_57_24 t_text a_59 t_kinds t_kindLetters t_kindNames (upd t_kindParts v1.toNatClampNeg v2) t_kindSorts t_kindMay a_66 a_67 a_68 a_69 a_70 a_71 a_72 a_73 a_74 a_75 l_76) else none)) (fun K => rfl) ?_
  obtain ⟨hg662, h⟩ := xn_if h
  refine xe_pos hg662 (xe_k ?_)
  refine xe_seg ok 5 (G := (fun K => if xr_in ((1 : Int32)) 2 = true then K (48, xm_i48, xm_I48, 0, 0, 279, [(0, .ref 59), (1, .int v1), (2, .int v2)], [.int (t_kinds ((1 : Int32)).toNatClampNeg), .int ((1 : Int32)), .ref 62], xw_R X s_57_0 t_size t_at t_fault t_from s_57_24 t_text a_59 t_kinds t_kindLetters t_kindNames (upd t_kindParts v1.toNatClampNeg v2) t_kindSorts t_kindMay a_66 a_67 a_68 a_69 a_70 a_71 a_72 a_73 a_74 a_75 l_76) else none)) (fun K => rfl) ?_
  refine xe_pos (by decide) (xe_k ?_)
  refine xe_seg ok 3 (G := (fun K => if xr_in ((1 : Int32)) 2 = true then K (48, xm_i48, xm_I48, 0, 0, 282, [(0, .ref 59), (1, .int v1), (2, .int v2)], [], xw_R X s_57_0 t_size t_at t_fault t_from s_57_24 t_text a_59 (upd t_kinds ((1 : Int32)).toNatClampNeg (((t_kinds ((1 : Int32)).toNatClampNeg) + ((1 : Int32))))) t_kindLetters t_kindNames (upd t_kindParts v1.toNatClampNeg v2) t_kindSorts t_kindMay a_66 a_67 a_68 a_69 a_70 a_71 a_72 a_73 a_74 a_75 l_76) else none)) (fun K => rfl) ?_
  refine xe_pos (by decide) (xe_k ?_)
  obtain rfl := Option.some.inj h
  refine xe_seg ok 1 (G := (fun _ => some (.inl none, xw_R X s_57_0 t_size t_at t_fault t_from s_57_24 t_text a_59 (upd t_kinds ((1 : Int32)).toNatClampNeg (((t_kinds ((1 : Int32)).toNatClampNeg) + ((1 : Int32))))) t_kindLetters t_kindNames (upd t_kindParts v1.toNatClampNeg v2) t_kindSorts t_kindMay a_66 a_67 a_68 a_69 a_70 a_71 a_72 a_73 a_74 a_75 l_76))) (fun K => rfl) ?_
  exact xe_ret
set_option maxHeartbeats 400000 in
theorem xh_rf_kind_57_252 {l : Launch} {g : xr_G} (ok : xr_OK xm_P) (a_59 a_66 a_67 a_68 a_69 a_70 a_71 a_72 a_73 a_74 a_75 : Nat → Int32) (l_76 : Nat → Int64) (s_57_0 s_57_24 : Int32) (X : Nat → xr_C) (t_size : Int32) (t_text : (Nat → Int32)) {k126 : Int32 → Int32 → Int32 → (Nat → Int32) → (Nat → Int32) → (Nat → Int32) → (Nat → Int32) → (Nat → Int32) → (Nat → Int32) → Int32 → Int32 → Int32 → Int32 → Option (Unit × Int32 × Int32 × Int32 × (Nat → Int32) × (Nat → Int32) × (Nat → Int32) × (Nat → Int32) × (Nat → Int32) × (Nat → Int32))} (hk126 : ∀ (t_at : Int32) (t_fault : Int32) (t_from : Int32) (t_kindLetters : (Nat → Int32)) (t_kindMay : (Nat → Int32)) (t_kindNames : (Nat → Int32)) (t_kindParts : (Nat → Int32)) (t_kindSorts : (Nat → Int32)) (t_kinds : (Nat → Int32)) (v1 : Int32) (v2 : Int32) (v3 : Int32) (v4 : Int32) (r : (Unit × Int32 × Int32 × Int32 × (Nat → Int32) × (Nat → Int32) × (Nat → Int32) × (Nat → Int32) × (Nat → Int32) × (Nat → Int32))), k126 t_at t_fault t_from t_kindLetters t_kindMay t_kindNames t_kindParts t_kindSorts t_kinds v1 v2 v3 v4 = some r → xV xm_P l g (48, xm_i48, xm_I48, 0, 0, 126, [(0, .ref 59), (1, .int v1), (2, .int v2), (3, .int v3), (4, .int v4)], [], xw_R X s_57_0 t_size t_at t_fault t_from s_57_24 t_text a_59 t_kinds t_kindLetters t_kindNames t_kindParts t_kindSorts t_kindMay a_66 a_67 a_68 a_69 a_70 a_71 a_72 a_73 a_74 a_75 l_76) (.inl none, xw_R X s_57_0 t_size r.2.1 r.2.2.1 r.2.2.2.1 s_57_24 t_text a_59 r.2.2.2.2.2.2.2.2.2 r.2.2.2.2.1 r.2.2.2.2.2.2.1 r.2.2.2.2.2.2.2.1 r.2.2.2.2.2.2.2.2.1 r.2.2.2.2.2.1 a_66 a_67 a_68 a_69 a_70 a_71 a_72 a_73 a_74 a_75 l_76)) (n : Nat) : ∀ (t_at : Int32) (t_fault : Int32) (t_from : Int32) (t_kindLetters : (Nat → Int32)) (t_kindMay : (Nat → Int32)) (t_kindNames : (Nat → Int32)) (t_kindParts : (Nat → Int32)) (t_kindSorts : (Nat → Int32)) (t_kinds : (Nat → Int32)) (v1 : Int32) (v2 : Int32) (v3 : Int32) (v4 : Int32) (r : (Unit × Int32 × Int32 × Int32 × (Nat → Int32) × (Nat → Int32) × (Nat → Int32) × (Nat → Int32) × (Nat → Int32) × (Nat → Int32))), xf_rf_kind_252 t_size t_text k126 n t_at t_fault t_from t_kindLetters t_kindMay t_kindNames t_kindParts t_kindSorts t_kinds v1 v2 v3 v4 = some r → xV xm_P l g (48, xm_i48, xm_I48, 0, 0, 252, [(0, .ref 59), (1, .int v1), (2, .int v2), (3, .int v3), (4, .int v4)], [], xw_R X s_57_0 t_size t_at t_fault t_from s_57_24 t_text a_59 t_kinds t_kindLetters t_kindNames t_kindParts t_kindSorts t_kindMay a_66 a_67 a_68 a_69 a_70 a_71 a_72 a_73 a_74 a_75 l_76) (.inl none, xw_R X s_57_0 t_size r.2.1 r.2.2.1 r.2.2.2.1 s_57_24 t_text a_59 r.2.2.2.2.2.2.2.2.2 r.2.2.2.2.1 r.2.2.2.2.2.2.1 r.2.2.2.2.2.2.2.1 r.2.2.2.2.2.2.2.2.1 r.2.2.2.2.2.1 a_66 a_67 a_68 a_69 a_70 a_71 a_72 a_73 a_74 a_75 l_76) := by
  intro t_at t_fault t_from t_kindLetters t_kindMay t_kindNames t_kindParts t_kindSorts t_kinds v1 v2 v3 v4 r h
  unfold xf_rf_kind_252 at h
  refine xe_seg ok 7 (G := (fun K => K (48, xm_i48, xm_I48, 0, 0, 126, [(0, .ref 59), (1, .int v1), (2, .int v2), (3, .int v3), (4, .int v4)], [], xw_R X s_57_0 t_size (t_at + ((1 : Int32))) t_fault t_from s_57_24 t_text a_59 t_kinds t_kindLetters t_kindNames t_kindParts t_kindSorts t_kindMay a_66 a_67 a_68 a_69 a_70 a_71 a_72 a_73 a_74 a_75 l_76))) (fun K => rfl) ?_
  refine xe_k ?_
  refine xe_sub [true, true, true, true, true] (lv' := [(0, .ref 59), (1, .int v1), (2, .int v2), (3, .int v3), (4, .int v4)]) rfl ?_
  have hz := hk126 (t_at + ((1 : Int32))) t_fault t_from t_kindLetters t_kindMay t_kindNames t_kindParts t_kindSorts t_kinds v1 v2 v3 v4 _ h
  exact hz
set_option maxHeartbeats 400000 in
theorem xh_rf_kind_57_207 {l : Launch} {g : xr_G} (ok : xr_OK xm_P) (a_59 a_66 a_67 a_68 a_69 a_70 a_71 a_72 a_73 a_74 a_75 : Nat → Int32) (l_76 : Nat → Int64) (s_57_0 s_57_24 : Int32) (X : Nat → xr_C) (t_size : Int32) (t_text : (Nat → Int32)) {k126 : Int32 → Int32 → Int32 → (Nat → Int32) → (Nat → Int32) → (Nat → Int32) → (Nat → Int32) → (Nat → Int32) → (Nat → Int32) → Int32 → Int32 → Int32 → Int32 → Option (Unit × Int32 × Int32 × Int32 × (Nat → Int32) × (Nat → Int32) × (Nat → Int32) × (Nat → Int32) × (Nat → Int32) × (Nat → Int32))} (hk126 : ∀ (t_at : Int32) (t_fault : Int32) (t_from : Int32) (t_kindLetters : (Nat → Int32)) (t_kindMay : (Nat → Int32)) (t_kindNames : (Nat → Int32)) (t_kindParts : (Nat → Int32)) (t_kindSorts : (Nat → Int32)) (t_kinds : (Nat → Int32)) (v1 : Int32) (v2 : Int32) (v3 : Int32) (v4 : Int32) (r : (Unit × Int32 × Int32 × Int32 × (Nat → Int32) × (Nat → Int32) × (Nat → Int32) × (Nat → Int32) × (Nat → Int32) × (Nat → Int32))), k126 t_at t_fault t_from t_kindLetters t_kindMay t_kindNames t_kindParts t_kindSorts t_kinds v1 v2 v3 v4 = some r → xV xm_P l g (48, xm_i48, xm_I48, 0, 0, 126, [(0, .ref 59), (1, .int v1), (2, .int v2), (3, .int v3), (4, .int v4)], [], xw_R X s_57_0 t_size t_at t_fault t_from s_57_24 t_text a_59 t_kinds t_kindLetters t_kindNames t_kindParts t_kindSorts t_kindMay a_66 a_67 a_68 a_69 a_70 a_71 a_72 a_73 a_74 a_75 l_76) (.inl none, xw_R X s_57_0 t_size r.2.1 r.2.2.1 r.2.2.2.1 s_57_24 t_text a_59 r.2.2.2.2.2.2.2.2.2 r.2.2.2.2.1 r.2.2.2.2.2.2.1 r.2.2.2.2.2.2.2.1 r.2.2.2.2.2.2.2.2.1 r.2.2.2.2.2.1 a_66 a_67 a_68 a_69 a_70 a_71 a_72 a_73 a_74 a_75 l_76)) (n : Nat) : ∀ (t_at : Int32) (t_fault : Int32) (t_from : Int32) (t_kindLetters : (Nat → Int32)) (t_kindMay : (Nat → Int32)) (t_kindNames : (Nat → Int32)) (t_kindParts : (Nat → Int32)) (t_kindSorts : (Nat → Int32)) (t_kinds : (Nat → Int32)) (v1 : Int32) (v2 : Int32) (v3 : Int32) (v4 : Int32) (r : (Unit × Int32 × Int32 × Int32 × (Nat → Int32) × (Nat → Int32) × (Nat → Int32) × (Nat → Int32) × (Nat → Int32) × (Nat → Int32))), xf_rf_kind_207 t_size t_text k126 n t_at t_fault t_from t_kindLetters t_kindMay t_kindNames t_kindParts t_kindSorts t_kinds v1 v2 v3 v4 = some r → xV xm_P l g (48, xm_i48, xm_I48, 0, 0, 207, [(0, .ref 59), (1, .int v1), (2, .int v2), (3, .int v3), (4, .int v4)], [], xw_R X s_57_0 t_size t_at t_fault t_from s_57_24 t_text a_59 t_kinds t_kindLetters t_kindNames t_kindParts t_kindSorts t_kindMay a_66 a_67 a_68 a_69 a_70 a_71 a_72 a_73 a_74 a_75 l_76) (.inl none, xw_R X s_57_0 t_size r.2.1 r.2.2.1 r.2.2.2.1 s_57_24 t_text a_59 r.2.2.2.2.2.2.2.2.2 r.2.2.2.2.1 r.2.2.2.2.2.2.1 r.2.2.2.2.2.2.2.1 r.2.2.2.2.2.2.2.2.1 r.2.2.2.2.2.1 a_66 a_67 a_68 a_69 a_70 a_71 a_72 a_73 a_74 a_75 l_76) := by
  intro t_at t_fault t_from t_kindLetters t_kindMay t_kindNames t_kindParts t_kindSorts t_kinds v1 v2 v3 v4 r h
  unfold xf_rf_kind_207 at h
  refine xe_seg ok 4 (G := (fun K => xr_back K 48 xm_i48 xm_I48 0 0 212 [(0, .ref 59), (1, .int v1), (2, .int v2), (3, .int v3), (4, .int v4)] [] 78 true (K (39, xm_i39, xm_I39, 0, 0, 0, [(0, .ref 59), (1, .int t_at)], [], xw_R X s_57_0 t_size t_at t_fault t_from s_57_24 t_text a_59 t_kinds t_kindLetters t_kindNames t_kindParts t_kindSorts t_kindMay a_66 a_67 a_68 a_69 a_70 a_71 a_72 a_73 a_74 a_75 l_76)))) (fun K => rfl) ?_
  obtain ⟨q671, hq671, h⟩ := Option.bind_eq_some_iff.mp h
  have heq671 := xh_rf_wrongAt_57 (l := l) (g := g) ok t_text a_59 t_kinds t_kindLetters t_kindNames t_kindParts t_kindSorts t_kindMay a_66 a_67 a_68 a_69 a_70 a_71 a_72 a_73 a_74 a_75 l_76 s_57_0 t_size t_at t_from s_57_24 X t_fault t_at _ hq671
  refine xe_call0 (ws' := xw_R X s_57_0 t_size t_at q671.2 t_from s_57_24 t_text a_59 t_kinds t_kindLetters t_kindNames t_kindParts t_kindSorts t_kindMay a_66 a_67 a_68 a_69 a_70 a_71 a_72 a_73 a_74 a_75 l_76) (by decide) heq671 (Or.inl rfl) ?_
  refine xe_seg ok 1 (G := (fun K => K (48, xm_i48, xm_I48, 0, 0, 252, [(0, .ref 59), (1, .int v1), (2, .int v2), (3, .int v3), (4, .int v4)], [], xw_R X s_57_0 t_size t_at q671.2 t_from s_57_24 t_text a_59 t_kinds t_kindLetters t_kindNames t_kindParts t_kindSorts t_kindMay a_66 a_67 a_68 a_69 a_70 a_71 a_72 a_73 a_74 a_75 l_76))) (fun K => rfl) ?_
  refine xe_k ?_
  refine xe_sub [true, true, true, true, true] (lv' := [(0, .ref 59), (1, .int v1), (2, .int v2), (3, .int v3), (4, .int v4)]) rfl ?_
  have hz := xh_rf_kind_57_252 (l := l) (g := g) ok a_59 a_66 a_67 a_68 a_69 a_70 a_71 a_72 a_73 a_74 a_75 l_76 s_57_0 s_57_24 X t_size t_text hk126 n t_at q671.2 t_from t_kindLetters t_kindMay t_kindNames t_kindParts t_kindSorts t_kinds v1 v2 v3 v4 _ h
  exact hz
set_option maxHeartbeats 400000 in
theorem xh_rf_sortOf_92 {l : Launch} {g : xr_G} (ok : xr_OK xm_P) (a_58 a_59 a_60 a_61 a_62 a_63 a_64 a_65 a_66 a_67 a_68 a_69 a_70 a_71 a_72 a_73 a_74 a_75 : Nat → Int32) (l_76 : Nat → Int64) (s_57_0 s_57_1 s_57_18 s_57_19 s_57_20 s_57_24 : Int32) (X : Nat → xr_C) : ∀  (r : (Int32)), xf_rf_sortOf_92   = some r → xV xm_P l g (46, xm_i46, xm_I46, 0, 0, 92, [], [], xw_R X s_57_0 s_57_1 s_57_18 s_57_19 s_57_20 s_57_24 a_58 a_59 a_60 a_61 a_62 a_63 a_64 a_65 a_66 a_67 a_68 a_69 a_70 a_71 a_72 a_73 a_74 a_75 l_76) (.inl (some (.int r)), xw_R X s_57_0 s_57_1 s_57_18 s_57_19 s_57_20 s_57_24 a_58 a_59 a_60 a_61 a_62 a_63 a_64 a_65 a_66 a_67 a_68 a_69 a_70 a_71 a_72 a_73 a_74 a_75 l_76) := by
  intro  r h
  unfold xf_rf_sortOf_92 at h
  obtain rfl := Option.some.inj h
  refine xe_seg ok 2 (G := (fun _ => some (.inl (some (.int ((-1 : Int32)))), xw_R X s_57_0 s_57_1 s_57_18 s_57_19 s_57_20 s_57_24 a_58 a_59 a_60 a_61 a_62 a_63 a_64 a_65 a_66 a_67 a_68 a_69 a_70 a_71 a_72 a_73 a_74 a_75 l_76))) (fun K => rfl) ?_
  exact xe_ret
set_option maxHeartbeats 400000 in
theorem xh_rf_sortOf {l : Launch} {g : xr_G} (ok : xr_OK xm_P) (a_58 a_59 a_60 a_61 a_62 a_63 a_64 a_65 a_66 a_67 a_68 a_69 a_70 a_71 a_72 a_73 a_74 a_75 : Nat → Int32) (l_76 : Nat → Int64) (s_57_0 s_57_1 s_57_18 s_57_19 s_57_20 s_57_24 : Int32) (X : Nat → xr_C) : ∀ (a1 : Int32) (r : (Int32)), xf_rf_sortOf  a1 = some r → xV xm_P l g (46, xm_i46, xm_I46, 0, 0, 0, [(0, .int a1)], [], xw_R X s_57_0 s_57_1 s_57_18 s_57_19 s_57_20 s_57_24 a_58 a_59 a_60 a_61 a_62 a_63 a_64 a_65 a_66 a_67 a_68 a_69 a_70 a_71 a_72 a_73 a_74 a_75 l_76) (.inl (some (.int r)), xw_R X s_57_0 s_57_1 s_57_18 s_57_19 s_57_20 s_57_24 a_58 a_59 a_60 a_61 a_62 a_63 a_64 a_65 a_66 a_67 a_68 a_69 a_70 a_71 a_72 a_73 a_74 a_75 l_76) := by
  intro a1 r h
  unfold xf_rf_sortOf at h
  refine xe_seg ok 2 (G := (fun K => if a1 = (69 : Int32) then K (46, xm_i46, xm_I46, 0, 0, 90, [(0, .int a1)], [], xw_R X s_57_0 s_57_1 s_57_18 s_57_19 s_57_20 s_57_24 a_58 a_59 a_60 a_61 a_62 a_63 a_64 a_65 a_66 a_67 a_68 a_69 a_70 a_71 a_72 a_73 a_74 a_75 l_76) else if a1 = (70 : Int32) then K (46, xm_i46, xm_I46, 0, 0, 92, [(0, .int a1)], [], xw_R X s_57_0 s_57_1 s_57_18 s_57_19 s_57_20 s_57_24 a_58 a_59 a_60 a_61 a_62 a_63 a_64 a_65 a_66 a_67 a_68 a_69 a_70 a_71 a_72 a_73 a_74 a_75 l_76) else if a1 = (71 : Int32) then K (46, xm_i46, xm_I46, 0, 0, 92, [(0, .int a1)], [], xw_R X s_57_0 s_57_1 s_57_18 s_57_19 s_57_20 s_57_24 a_58 a_59 a_60 a_61 a_62 a_63 a_64 a_65 a_66 a_67 a_68 a_69 a_70 a_71 a_72 a_73 a_74 a_75 l_76) else if a1 = (72 : Int32) then K (46, xm_i46, xm_I46, 0, 0, 92, [(0, .int a1)], [], xw_R X s_57_0 s_57_1 s_57_18 s_57_19 s_57_20 s_57_24 a_58 a_59 a_60 a_61 a_62 a_63 a_64 a_65 a_66 a_67 a_68 a_69 a_70 a_71 a_72 a_73 a_74 a_75 l_76) else if a1 = (73 : Int32) then K (46, xm_i46, xm_I46, 0, 0, 80, [(0, .int a1)], [], xw_R X s_57_0 s_57_1 s_57_18 s_57_19 s_57_20 s_57_24 a_58 a_59 a_60 a_61 a_62 a_63 a_64 a_65 a_66 a_67 a_68 a_69 a_70 a_71 a_72 a_73 a_74 a_75 l_76) else if a1 = (74 : Int32) then K (46, xm_i46, xm_I46, 0, 0, 92, [(0, .int a1)], [], xw_R X s_57_0 s_57_1 s_57_18 s_57_19 s_57_20 s_57_24 a_58 a_59 a_60 a_61 a_62 a_63 a_64 a_65 a_66 a_67 a_68 a_69 a_70 a_71 a_72 a_73 a_74 a_75 l_76) else if a1 = (75 : Int32) then K (46, xm_i46, xm_I46, 0, 0, 92, [(0, .int a1)], [], xw_R X s_57_0 s_57_1 s_57_18 s_57_19 s_57_20 s_57_24 a_58 a_59 a_60 a_61 a_62 a_63 a_64 a_65 a_66 a_67 a_68 a_69 a_70 a_71 a_72 a_73 a_74 a_75 l_76) else if a1 = (76 : Int32) then K (46, xm_i46, xm_I46, 0, 0, 86, [(0, .int a1)], [], xw_R X s_57_0 s_57_1 s_57_18 s_57_19 s_57_20 s_57_24 a_58 a_59 a_60 a_61 a_62 a_63 a_64 a_65 a_66 a_67 a_68 a_69 a_70 a_71 a_72 a_73 a_74 a_75 l_76) else if a1 = (77 : Int32) then K (46, xm_i46, xm_I46, 0, 0, 88, [(0, .int a1)], [], xw_R X s_57_0 s_57_1 s_57_18 s_57_19 s_57_20 s_57_24 a_58 a_59 a_60 a_61 a_62 a_63 a_64 a_65 a_66 a_67 a_68 a_69 a_70 a_71 a_72 a_73 a_74 a_75 l_76) else if a1 = (78 : Int32) then K (46, xm_i46, xm_I46, 0, 0, 92, [(0, .int a1)], [], xw_R X s_57_0 s_57_1 s_57_18 s_57_19 s_57_20 s_57_24 a_58 a_59 a_60 a_61 a_62 a_63 a_64 a_65 a_66 a_67 a_68 a_69 a_70 a_71 a_72 a_73 a_74 a_75 l_76) else if a1 = (79 : Int32) then K (46, xm_i46, xm_I46, 0, 0, 92, [(0, .int a1)], [], xw_R X s_57_0 s_57_1 s_57_18 s_57_19 s_57_20 s_57_24 a_58 a_59 a_60 a_61 a_62 a_63 a_64 a_65 a_66 a_67 a_68 a_69 a_70 a_71 a_72 a_73 a_74 a_75 l_76) else if a1 = (80 : Int32) then K (46, xm_i46, xm_I46, 0, 0, 92, [(0, .int a1)], [], xw_R X s_57_0 s_57_1 s_57_18 s_57_19 s_57_20 s_57_24 a_58 a_59 a_60 a_61 a_62 a_63 a_64 a_65 a_66 a_67 a_68 a_69 a_70 a_71 a_72 a_73 a_74 a_75 l_76) else if a1 = (81 : Int32) then K (46, xm_i46, xm_I46, 0, 0, 92, [(0, .int a1)], [], xw_R X s_57_0 s_57_1 s_57_18 s_57_19 s_57_20 s_57_24 a_58 a_59 a_60 a_61 a_62 a_63 a_64 a_65 a_66 a_67 a_68 a_69 a_70 a_71 a_72 a_73 a_74 a_75 l_76) else if a1 = (82 : Int32) then K (46, xm_i46, xm_I46, 0, 0, 84, [(0, .int a1)], [], xw_R X s_57_0 s_57_1 s_57_18 s_57_19 s_57_20 s_57_24 a_58 a_59 a_60 a_61 a_62 a_63 a_64 a_65 a_66 a_67 a_68 a_69 a_70 a_71 a_72 a_73 a_74 a_75 l_76) else if a1 = (83 : Int32) then K (46, xm_i46, xm_I46, 0, 0, 92, [(0, .int a1)], [], xw_R X s_57_0 s_57_1 s_57_18 s_57_19 s_57_20 s_57_24 a_58 a_59 a_60 a_61 a_62 a_63 a_64 a_65 a_66 a_67 a_68 a_69 a_70 a_71 a_72 a_73 a_74 a_75 l_76) else if a1 = (84 : Int32) then K (46, xm_i46, xm_I46, 0, 0, 82, [(0, .int a1)], [], xw_R X s_57_0 s_57_1 s_57_18 s_57_19 s_57_20 s_57_24 a_58 a_59 a_60 a_61 a_62 a_63 a_64 a_65 a_66 a_67 a_68 a_69 a_70 a_71 a_72 a_73 a_74 a_75 l_76) else K (46, xm_i46, xm_I46, 0, 0, 92, [(0, .int a1)], [], xw_R X s_57_0 s_57_1 s_57_18 s_57_19 s_57_20 s_57_24 a_58 a_59 a_60 a_61 a_62 a_63 a_64 a_65 a_66 a_67 a_68 a_69 a_70 a_71 a_72 a_73 a_74 a_75 l_76))) (fun K => rfl) ?_
  rcases xb_if h with ⟨hc672, h⟩ | ⟨hc672, h⟩
  · refine xe_pos hc672 (xe_k ?_)
    obtain rfl := Option.some.inj h
    refine xe_seg ok 2 (G := (fun _ => some (.inl (some (.int ((5 : Int32)))), xw_R X s_57_0 s_57_1 s_57_18 s_57_19 s_57_20 s_57_24 a_58 a_59 a_60 a_61 a_62 a_63 a_64 a_65 a_66 a_67 a_68 a_69 a_70 a_71 a_72 a_73 a_74 a_75 l_76))) (fun K => rfl) ?_
    exact xe_ret
  · refine xe_neg hc672 ?_
    rcases xb_if h with ⟨hc673, h⟩ | ⟨hc673, h⟩
    · refine xe_pos hc673 (xe_k ?_)
      refine xe_sub [false] (lv' := []) rfl ?_
      have hz := xh_rf_sortOf_92 (l := l) (g := g) ok a_58 a_59 a_60 a_61 a_62 a_63 a_64 a_65 a_66 a_67 a_68 a_69 a_70 a_71 a_72 a_73 a_74 a_75 l_76 s_57_0 s_57_1 s_57_18 s_57_19 s_57_20 s_57_24 X  _ h
      exact hz
    · refine xe_neg hc673 ?_
      rcases xb_if h with ⟨hc674, h⟩ | ⟨hc674, h⟩
      · refine xe_pos hc674 (xe_k ?_)
        refine xe_sub [false] (lv' := []) rfl ?_
        have hz := xh_rf_sortOf_92 (l := l) (g := g) ok a_58 a_59 a_60 a_61 a_62 a_63 a_64 a_65 a_66 a_67 a_68 a_69 a_70 a_71 a_72 a_73 a_74 a_75 l_76 s_57_0 s_57_1 s_57_18 s_57_19 s_57_20 s_57_24 X  _ h
        exact hz
      · refine xe_neg hc674 ?_
        rcases xb_if h with ⟨hc675, h⟩ | ⟨hc675, h⟩
        · refine xe_pos hc675 (xe_k ?_)
          refine xe_sub [false] (lv' := []) rfl ?_
          have hz := xh_rf_sortOf_92 (l := l) (g := g) ok a_58 a_59 a_60 a_61 a_62 a_63 a_64 a_65 a_66 a_67 a_68 a_69 a_70 a_71 a_72 a_73 a_74 a_75 l_76 s_57_0 s_57_1 s_57_18 s_57_19 s_57_20 s_57_24 X  _ h
          exact hz
        · refine xe_neg hc675 ?_
          rcases xb_if h with ⟨hc676, h⟩ | ⟨hc676, h⟩
          · refine xe_pos hc676 (xe_k ?_)
            obtain rfl := Option.some.inj h
            refine xe_seg ok 2 (G := (fun _ => some (.inl (some (.int ((0 : Int32)))), xw_R X s_57_0 s_57_1 s_57_18 s_57_19 s_57_20 s_57_24 a_58 a_59 a_60 a_61 a_62 a_63 a_64 a_65 a_66 a_67 a_68 a_69 a_70 a_71 a_72 a_73 a_74 a_75 l_76))) (fun K => rfl) ?_
            exact xe_ret
          · refine xe_neg hc676 ?_
            rcases xb_if h with ⟨hc677, h⟩ | ⟨hc677, h⟩
            · refine xe_pos hc677 (xe_k ?_)
              refine xe_sub [false] (lv' := []) rfl ?_
              have hz := xh_rf_sortOf_92 (l := l) (g := g) ok a_58 a_59 a_60 a_61 a_62 a_63 a_64 a_65 a_66 a_67 a_68 a_69 a_70 a_71 a_72 a_73 a_74 a_75 l_76 s_57_0 s_57_1 s_57_18 s_57_19 s_57_20 s_57_24 X  _ h
              exact hz
            · refine xe_neg hc677 ?_
              rcases xb_if h with ⟨hc678, h⟩ | ⟨hc678, h⟩
              · refine xe_pos hc678 (xe_k ?_)
                refine xe_sub [false] (lv' := []) rfl ?_
                have hz := xh_rf_sortOf_92 (l := l) (g := g) ok a_58 a_59 a_60 a_61 a_62 a_63 a_64 a_65 a_66 a_67 a_68 a_69 a_70 a_71 a_72 a_73 a_74 a_75 l_76 s_57_0 s_57_1 s_57_18 s_57_19 s_57_20 s_57_24 X  _ h
                exact hz
              · refine xe_neg hc678 ?_
                rcases xb_if h with ⟨hc679, h⟩ | ⟨hc679, h⟩
                · refine xe_pos hc679 (xe_k ?_)
                  obtain rfl := Option.some.inj h
                  refine xe_seg ok 2 (G := (fun _ => some (.inl (some (.int ((3 : Int32)))), xw_R X s_57_0 s_57_1 s_57_18 s_57_19 s_57_20 s_57_24 a_58 a_59 a_60 a_61 a_62 a_63 a_64 a_65 a_66 a_67 a_68 a_69 a_70 a_71 a_72 a_73 a_74 a_75 l_76))) (fun K => rfl) ?_
                  exact xe_ret
                · refine xe_neg hc679 ?_
                  rcases xb_if h with ⟨hc680, h⟩ | ⟨hc680, h⟩
                  · refine xe_pos hc680 (xe_k ?_)
                    obtain rfl := Option.some.inj h
                    refine xe_seg ok 2 (G := (fun _ => some (.inl (some (.int ((4 : Int32)))), xw_R X s_57_0 s_57_1 s_57_18 s_57_19 s_57_20 s_57_24 a_58 a_59 a_60 a_61 a_62 a_63 a_64 a_65 a_66 a_67 a_68 a_69 a_70 a_71 a_72 a_73 a_74 a_75 l_76))) (fun K => rfl) ?_
                    exact xe_ret
                  · refine xe_neg hc680 ?_
                    rcases xb_if h with ⟨hc681, h⟩ | ⟨hc681, h⟩
                    · refine xe_pos hc681 (xe_k ?_)
                      refine xe_sub [false] (lv' := []) rfl ?_
                      have hz := xh_rf_sortOf_92 (l := l) (g := g) ok a_58 a_59 a_60 a_61 a_62 a_63 a_64 a_65 a_66 a_67 a_68 a_69 a_70 a_71 a_72 a_73 a_74 a_75 l_76 s_57_0 s_57_1 s_57_18 s_57_19 s_57_20 s_57_24 X  _ h
                      exact hz
                    · refine xe_neg hc681 ?_
                      rcases xb_if h with ⟨hc682, h⟩ | ⟨hc682, h⟩
                      · refine xe_pos hc682 (xe_k ?_)
                        refine xe_sub [false] (lv' := []) rfl ?_
                        have hz := xh_rf_sortOf_92 (l := l) (g := g) ok a_58 a_59 a_60 a_61 a_62 a_63 a_64 a_65 a_66 a_67 a_68 a_69 a_70 a_71 a_72 a_73 a_74 a_75 l_76 s_57_0 s_57_1 s_57_18 s_57_19 s_57_20 s_57_24 X  _ h
                        exact hz
                      · refine xe_neg hc682 ?_
                        rcases xb_if h with ⟨hc683, h⟩ | ⟨hc683, h⟩
                        · refine xe_pos hc683 (xe_k ?_)
                          refine xe_sub [false] (lv' := []) rfl ?_
                          have hz := xh_rf_sortOf_92 (l := l) (g := g) ok a_58 a_59 a_60 a_61 a_62 a_63 a_64 a_65 a_66 a_67 a_68 a_69 a_70 a_71 a_72 a_73 a_74 a_75 l_76 s_57_0 s_57_1 s_57_18 s_57_19 s_57_20 s_57_24 X  _ h
                          exact hz
                        · refine xe_neg hc683 ?_
                          rcases xb_if h with ⟨hc684, h⟩ | ⟨hc684, h⟩
                          · refine xe_pos hc684 (xe_k ?_)
                            refine xe_sub [false] (lv' := []) rfl ?_
                            have hz := xh_rf_sortOf_92 (l := l) (g := g) ok a_58 a_59 a_60 a_61 a_62 a_63 a_64 a_65 a_66 a_67 a_68 a_69 a_70 a_71 a_72 a_73 a_74 a_75 l_76 s_57_0 s_57_1 s_57_18 s_57_19 s_57_20 s_57_24 X  _ h
                            exact hz
                          · refine xe_neg hc684 ?_
                            rcases xb_if h with ⟨hc685, h⟩ | ⟨hc685, h⟩
                            · refine xe_pos hc685 (xe_k ?_)
                              obtain rfl := Option.some.inj h
                              refine xe_seg ok 2 (G := (fun _ => some (.inl (some (.int ((2 : Int32)))), xw_R X s_57_0 s_57_1 s_57_18 s_57_19 s_57_20 s_57_24 a_58 a_59 a_60 a_61 a_62 a_63 a_64 a_65 a_66 a_67 a_68 a_69 a_70 a_71 a_72 a_73 a_74 a_75 l_76))) (fun K => rfl) ?_
                              exact xe_ret
                            · refine xe_neg hc685 ?_
                              rcases xb_if h with ⟨hc686, h⟩ | ⟨hc686, h⟩
                              · refine xe_pos hc686 (xe_k ?_)
                                refine xe_sub [false] (lv' := []) rfl ?_
                                have hz := xh_rf_sortOf_92 (l := l) (g := g) ok a_58 a_59 a_60 a_61 a_62 a_63 a_64 a_65 a_66 a_67 a_68 a_69 a_70 a_71 a_72 a_73 a_74 a_75 l_76 s_57_0 s_57_1 s_57_18 s_57_19 s_57_20 s_57_24 X  _ h
                                exact hz
                              · refine xe_neg hc686 ?_
                                rcases xb_if h with ⟨hc687, h⟩ | ⟨hc687, h⟩
                                · refine xe_pos hc687 (xe_k ?_)
                                  obtain rfl := Option.some.inj h
                                  refine xe_seg ok 2 (G := (fun _ => some (.inl (some (.int ((1 : Int32)))), xw_R X s_57_0 s_57_1 s_57_18 s_57_19 s_57_20 s_57_24 a_58 a_59 a_60 a_61 a_62 a_63 a_64 a_65 a_66 a_67 a_68 a_69 a_70 a_71 a_72 a_73 a_74 a_75 l_76))) (fun K => rfl) ?_
                                  exact xe_ret
                                · refine xe_neg hc687 ?_
                                  refine xe_k ?_
                                  refine xe_sub [false] (lv' := []) rfl ?_
                                  have hz := xh_rf_sortOf_92 (l := l) (g := g) ok a_58 a_59 a_60 a_61 a_62 a_63 a_64 a_65 a_66 a_67 a_68 a_69 a_70 a_71 a_72 a_73 a_74 a_75 l_76 s_57_0 s_57_1 s_57_18 s_57_19 s_57_20 s_57_24 X  _ h
                                  exact hz
set_option maxHeartbeats 400000 in
theorem xh_rf_kind_57_192 {l : Launch} {g : xr_G} (ok : xr_OK xm_P) (a_59 a_66 a_67 a_68 a_69 a_70 a_71 a_72 a_73 a_74 a_75 : Nat → Int32) (l_76 : Nat → Int64) (s_57_0 s_57_24 : Int32) (X : Nat → xr_C) (t_size : Int32) (t_text : (Nat → Int32)) {k126 : Int32 → Int32 → Int32 → (Nat → Int32) → (Nat → Int32) → (Nat → Int32) → (Nat → Int32) → (Nat → Int32) → (Nat → Int32) → Int32 → Int32 → Int32 → Int32 → Option (Unit × Int32 × Int32 × Int32 × (Nat → Int32) × (Nat → Int32) × (Nat → Int32) × (Nat → Int32) × (Nat → Int32) × (Nat → Int32))} (hk126 : ∀ (t_at : Int32) (t_fault : Int32) (t_from : Int32) (t_kindLetters : (Nat → Int32)) (t_kindMay : (Nat → Int32)) (t_kindNames : (Nat → Int32)) (t_kindParts : (Nat → Int32)) (t_kindSorts : (Nat → Int32)) (t_kinds : (Nat → Int32)) (v1 : Int32) (v2 : Int32) (v3 : Int32) (v4 : Int32) (r : (Unit × Int32 × Int32 × Int32 × (Nat → Int32) × (Nat → Int32) × (Nat → Int32) × (Nat → Int32) × (Nat → Int32) × (Nat → Int32))), k126 t_at t_fault t_from t_kindLetters t_kindMay t_kindNames t_kindParts t_kindSorts t_kinds v1 v2 v3 v4 = some r → xV xm_P l g (48, xm_i48, xm_I48, 0, 0, 126, [(0, .ref 59), (1, .int v1), (2, .int v2), (3, .int v3), (4, .int v4)], [], xw_R X s_57_0 t_size t_at t_fault t_from s_57_24 t_text a_59 t_kinds t_kindLetters t_kindNames t_kindParts t_kindSorts t_kindMay a_66 a_67 a_68 a_69 a_70 a_71 a_72 a_73 a_74 a_75 l_76) (.inl none, xw_R X s_57_0 t_size r.2.1 r.2.2.1 r.2.2.2.1 s_57_24 t_text a_59 r.2.2.2.2.2.2.2.2.2 r.2.2.2.2.1 r.2.2.2.2.2.2.1 r.2.2.2.2.2.2.2.1 r.2.2.2.2.2.2.2.2.1 r.2.2.2.2.2.1 a_66 a_67 a_68 a_69 a_70 a_71 a_72 a_73 a_74 a_75 l_76)) (n : Nat) : ∀ (t_at : Int32) (t_fault : Int32) (t_from : Int32) (t_kindLetters : (Nat → Int32)) (t_kindMay : (Nat → Int32)) (t_kindNames : (Nat → Int32)) (t_kindParts : (Nat → Int32)) (t_kindSorts : (Nat → Int32)) (t_kinds : (Nat → Int32)) (v1 : Int32) (v2 : Int32) (v3 : Int32) (v4 : Int32) (v5 : Int32) (r : (Unit × Int32 × Int32 × Int32 × (Nat → Int32) × (Nat → Int32) × (Nat → Int32) × (Nat → Int32) × (Nat → Int32) × (Nat → Int32))), xf_rf_kind_192 t_size t_text k126 n t_at t_fault t_from t_kindLetters t_kindMay t_kindNames t_kindParts t_kindSorts t_kinds v1 v2 v3 v4 v5 = some r → xV xm_P l g (48, xm_i48, xm_I48, 0, 0, 192, [(0, .ref 59), (1, .int v1), (2, .int v2), (3, .int v3), (4, .int v4), (5, .int v5)], [], xw_R X s_57_0 t_size t_at t_fault t_from s_57_24 t_text a_59 t_kinds t_kindLetters t_kindNames t_kindParts t_kindSorts t_kindMay a_66 a_67 a_68 a_69 a_70 a_71 a_72 a_73 a_74 a_75 l_76) (.inl none, xw_R X s_57_0 t_size r.2.1 r.2.2.1 r.2.2.2.1 s_57_24 t_text a_59 r.2.2.2.2.2.2.2.2.2 r.2.2.2.2.1 r.2.2.2.2.2.2.1 r.2.2.2.2.2.2.2.1 r.2.2.2.2.2.2.2.2.1 r.2.2.2.2.2.1 a_66 a_67 a_68 a_69 a_70 a_71 a_72 a_73 a_74 a_75 l_76) := by
  intro t_at t_fault t_from t_kindLetters t_kindMay t_kindNames t_kindParts t_kindSorts t_kinds v1 v2 v3 v4 v5 r h
  unfold xf_rf_kind_192 at h
  refine xe_seg ok 3 (G := (fun K => if v2 = ((8 : Int32)) then K (48, xm_i48, xm_I48, 0, 0, 207, [(0, .ref 59), (1, .int v1), (2, .int v2), (3, .int v3), (4, .int v4), (5, .int v5)], [], xw_R X s_57_0 t_size t_at t_fault t_from s_57_24 t_text a_59 t_kinds t_kindLetters t_kindNames t_kindParts t_kindSorts t_kindMay a_66 a_67 a_68 a_69 a_70 a_71 a_72 a_73 a_74 a_75 l_76) else K (48, xm_i48, xm_I48, 0, 0, 198, [(0, .ref 59), (1, .int v1), (2, .int v2), (3, .int v3), (4, .int v4), (5, .int v5)], [], xw_R X s_57_0 t_size t_at t_fault t_from s_57_24 t_text a_59 t_kinds t_kindLetters t_kindNames t_kindParts t_kindSorts t_kindMay a_66 a_67 a_68 a_69 a_70 a_71 a_72 a_73 a_74 a_75 l_76))) (fun K => rfl) ?_
  rcases xb_if h with ⟨hc670, h⟩ | ⟨hc670, h⟩
  · refine xe_pos hc670 (xe_k ?_)
    refine xe_sub [true, true, true, true, true, false] (lv' := [(0, .ref 59), (1, .int v1), (2, .int v2), (3, .int v3), (4, .int v4)]) rfl ?_
    have hz := xh_rf_kind_57_207 (l := l) (g := g) ok a_59 a_66 a_67 a_68 a_69 a_70 a_71 a_72 a_73 a_74 a_75 l_76 s_57_0 s_57_24 X t_size t_text hk126 n t_at t_fault t_from t_kindLetters t_kindMay t_kindNames t_kindParts t_kindSorts t_kinds v1 v2 v3 v4 _ h
    exact hz
  · refine xe_neg hc670 (xe_k ?_)
    refine xe_seg ok 2 (G := (fun K => xr_back K 48 xm_i48 xm_I48 0 0 200 [(0, .ref 59), (1, .int v1), (2, .int v2), (3, .int v3), (4, .int v4), (5, .int v5)] [] 78 true (K (46, xm_i46, xm_I46, 0, 0, 0, [(0, .int v5)], [], xw_R X s_57_0 t_size t_at t_fault t_from s_57_24 t_text a_59 t_kinds t_kindLetters t_kindNames t_kindParts t_kindSorts t_kindMay a_66 a_67 a_68 a_69 a_70 a_71 a_72 a_73 a_74 a_75 l_76)))) (fun K => rfl) ?_
    obtain ⟨q688, hq688, h⟩ := Option.bind_eq_some_iff.mp h
    have heq688 := xh_rf_sortOf (l := l) (g := g) ok t_text a_59 t_kinds t_kindLetters t_kindNames t_kindParts t_kindSorts t_kindMay a_66 a_67 a_68 a_69 a_70 a_71 a_72 a_73 a_74 a_75 l_76 s_57_0 t_size t_at t_fault t_from s_57_24 X v5 _ hq688
    refine xe_call1 (ws' := xw_R X s_57_0 t_size t_at t_fault t_from s_57_24 t_text a_59 t_kinds t_kindLetters t_kindNames t_kindParts t_kindSorts t_kindMay a_66 a_67 a_68 a_69 a_70 a_71 a_72 a_73 a_74 a_75 l_76) (by decide) heq688 (Or.inl rfl) ?_
    refine xe_seg ok 2 (G := (fun K => if q688 = ((-1 : Int32)) then K (48, xm_i48, xm_I48, 0, 0, 207, [(0, .ref 59), (1, .int v1), (2, .int v2), (3, .int v3), (4, .int v4), (5, .int v5)], [], xw_R X s_57_0 t_size t_at t_fault t_from s_57_24 t_text a_59 t_kinds t_kindLetters t_kindNames t_kindParts t_kindSorts t_kindMay a_66 a_67 a_68 a_69 a_70 a_71 a_72 a_73 a_74 a_75 l_76) else K (48, xm_i48, xm_I48, 0, 0, 218, [(0, .ref 59), (1, .int v1), (2, .int v2), (3, .int v3), (4, .int v4), (5, .int v5)], [], xw_R X s_57_0 t_size t_at t_fault t_from s_57_24 t_text a_59 t_kinds t_kindLetters t_kindNames t_kindParts t_kindSorts t_kindMay a_66 a_67 a_68 a_69 a_70 a_71 a_72 a_73 a_74 a_75 l_76))) (fun K => rfl) ?_
    rcases xb_if h with ⟨hc689, h⟩ | ⟨hc689, h⟩
    · refine xe_pos hc689 (xe_k ?_)
      refine xe_sub [true, true, true, true, true, false] (lv' := [(0, .ref 59), (1, .int v1), (2, .int v2), (3, .int v3), (4, .int v4)]) rfl ?_
      have hz := xh_rf_kind_57_207 (l := l) (g := g) ok a_59 a_66 a_67 a_68 a_69 a_70 a_71 a_72 a_73 a_74 a_75 l_76 s_57_0 s_57_24 X t_size t_text hk126 n t_at t_fault t_from t_kindLetters t_kindMay t_kindNames t_kindParts t_kindSorts t_kinds v1 v2 v3 v4 _ h
      exact hz
    · refine xe_neg hc689 (xe_k ?_)
      refine xe_seg ok 9 (G := (fun K => xr_back K 48 xm_i48 xm_I48 0 0 230 [(0, .ref 59), (1, .int v1), (2, .int v2), (3, .int v3), (4, .int v4), (5, .int v5)] [.int ((((8 : Int32)) * v1) + v2), .ref 66] 78 true (K (46, xm_i46, xm_I46, 0, 0, 0, [(0, .int v5)], [], xw_R X s_57_0 t_size t_at t_fault t_from s_57_24 t_text a_59 t_kinds t_kindLetters t_kindNames t_kindParts t_kindSorts t_kindMay a_66 a_67 a_68 a_69 a_70 a_71 a_72 a_73 a_74 a_75 l_76)))) (fun K => rfl) ?_
      obtain ⟨q690, hq690, h⟩ := Option.bind_eq_some_iff.mp h
      have heq690 := xh_rf_sortOf (l := l) (g := g) ok t_text a_59 t_kinds t_kindLetters t_kindNames t_kindParts t_kindSorts t_kindMay a_66 a_67 a_68 a_69 a_70 a_71 a_72 a_73 a_74 a_75 l_76 s_57_0 t_size t_at t_fault t_from s_57_24 X v5 _ hq690
      refine xe_call1 (ws' := xw_R X s_57_0 t_size t_at t_fault t_from s_57_24 t_text a_59 t_kinds t_kindLetters t_kindNames t_kindParts t_kindSorts t_kindMay a_66 a_67 a_68 a_69 a_70 a_71 a_72 a_73 a_74 a_75 l_76) (by decide) heq690 (Or.inl rfl) ?_
      refine xe_seg ok 1 (G := (fun K => if xr_in ((((8 : Int32)) * v1) + v2) 192 = true then K (48, xm_i48, xm_I48, 0, 0, 234, [(0, .ref 59), (1, .int v1), (2, .int v2), (3, .int v3), (4, .int v4), (5, .int v5)], [], xw_R X s_57_0 t_size t_at t_fault t_from s_57_24 t_text a_59 t_kinds t_kindLetters t_kindNames t_kindParts (upd t_kindSorts ((((8 : Int32)) * v1) + v2).toNatClampNeg q690) t_kindMay a_66 a_67 a_68 a_69 a_70 a_71 a_72 a_73 a_74 a_75 l_76) else none)) (fun K => rfl) ?_
      obtain ⟨hg691, h⟩ := xn_if h
      refine xe_pos hg691 (xe_k ?_)
      refine xe_seg ok 9 (G := (fun K => if xr_in ((((8 : Int32)) * v1) + v2) 192 = true then K (48, xm_i48, xm_I48, 0, 0, 246, [(0, .ref 59), (1, .int v1), (2, .int v2), (3, .int v3), (4, .int v4), (5, .int v5)], [], xw_R X s_57_0 t_size t_at t_fault t_from s_57_24 t_text a_59 t_kinds t_kindLetters t_kindNames t_kindParts (upd t_kindSorts ((((8 : Int32)) * v1) + v2).toNatClampNeg q690) (upd t_kindMay ((((8 : Int32)) * v1) + v2).toNatClampNeg (vp_nar .boolean ((0 : Int32)))) a_66 a_67 a_68 a_69 a_70 a_71 a_72 a_73 a_74 a_75 l_76) else none)) (fun K => rfl) ?_
      obtain ⟨hg692, h⟩ := xn_if h
      refine xe_pos hg692 (xe_k ?_)
      refine xe_seg ok 3 (G := (fun K => K (48, xm_i48, xm_I48, 0, 0, 252, [(0, .ref 59), (1, .int v1), (2, .int (v2 + (1 : Int32))), (3, .int v3), (4, .int ((0 : Int32))), (5, .int v5)], [], xw_R X s_57_0 t_size t_at t_fault t_from s_57_24 t_text a_59 t_kinds t_kindLetters t_kindNames t_kindParts (upd t_kindSorts ((((8 : Int32)) * v1) + v2).toNatClampNeg q690) (upd t_kindMay ((((8 : Int32)) * v1) + v2).toNatClampNeg (vp_nar .boolean ((0 : Int32)))) a_66 a_67 a_68 a_69 a_70 a_71 a_72 a_73 a_74 a_75 l_76))) (fun K => rfl) ?_
      refine xe_k ?_
      refine xe_sub [true, true, true, true, true, false] (lv' := [(0, .ref 59), (1, .int v1), (2, .int (v2 + (1 : Int32))), (3, .int v3), (4, .int ((0 : Int32)))]) rfl ?_
      have hz := xh_rf_kind_57_252 (l := l) (g := g) ok a_59 a_66 a_67 a_68 a_69 a_70 a_71 a_72 a_73 a_74 a_75 l_76 s_57_0 s_57_24 X t_size t_text hk126 n t_at t_fault t_from t_kindLetters (upd t_kindMay ((((8 : Int32)) * v1) + v2).toNatClampNeg (vp_nar .boolean ((0 : Int32)))) t_kindNames t_kindParts (upd t_kindSorts ((((8 : Int32)) * v1) + v2).toNatClampNeg q690) t_kinds v1 (v2 + (1 : Int32)) v3 ((0 : Int32)) _ h
      exact hz
set_option maxHeartbeats 400000 in
theorem xh_rf_kind_57_160 {l : Launch} {g : xr_G} (ok : xr_OK xm_P) (a_59 a_66 a_67 a_68 a_69 a_70 a_71 a_72 a_73 a_74 a_75 : Nat → Int32) (l_76 : Nat → Int64) (s_57_0 s_57_24 : Int32) (X : Nat → xr_C) (t_size : Int32) (t_text : (Nat → Int32)) {k126 : Int32 → Int32 → Int32 → (Nat → Int32) → (Nat → Int32) → (Nat → Int32) → (Nat → Int32) → (Nat → Int32) → (Nat → Int32) → Int32 → Int32 → Int32 → Int32 → Option (Unit × Int32 × Int32 × Int32 × (Nat → Int32) × (Nat → Int32) × (Nat → Int32) × (Nat → Int32) × (Nat → Int32) × (Nat → Int32))} (hk126 : ∀ (t_at : Int32) (t_fault : Int32) (t_from : Int32) (t_kindLetters : (Nat → Int32)) (t_kindMay : (Nat → Int32)) (t_kindNames : (Nat → Int32)) (t_kindParts : (Nat → Int32)) (t_kindSorts : (Nat → Int32)) (t_kinds : (Nat → Int32)) (v1 : Int32) (v2 : Int32) (v3 : Int32) (v4 : Int32) (r : (Unit × Int32 × Int32 × Int32 × (Nat → Int32) × (Nat → Int32) × (Nat → Int32) × (Nat → Int32) × (Nat → Int32) × (Nat → Int32))), k126 t_at t_fault t_from t_kindLetters t_kindMay t_kindNames t_kindParts t_kindSorts t_kinds v1 v2 v3 v4 = some r → xV xm_P l g (48, xm_i48, xm_I48, 0, 0, 126, [(0, .ref 59), (1, .int v1), (2, .int v2), (3, .int v3), (4, .int v4)], [], xw_R X s_57_0 t_size t_at t_fault t_from s_57_24 t_text a_59 t_kinds t_kindLetters t_kindNames t_kindParts t_kindSorts t_kindMay a_66 a_67 a_68 a_69 a_70 a_71 a_72 a_73 a_74 a_75 l_76) (.inl none, xw_R X s_57_0 t_size r.2.1 r.2.2.1 r.2.2.2.1 s_57_24 t_text a_59 r.2.2.2.2.2.2.2.2.2 r.2.2.2.2.1 r.2.2.2.2.2.2.1 r.2.2.2.2.2.2.2.1 r.2.2.2.2.2.2.2.2.1 r.2.2.2.2.2.1 a_66 a_67 a_68 a_69 a_70 a_71 a_72 a_73 a_74 a_75 l_76)) (n : Nat) : ∀ (t_at : Int32) (t_fault : Int32) (t_from : Int32) (t_kindLetters : (Nat → Int32)) (t_kindMay : (Nat → Int32)) (t_kindNames : (Nat → Int32)) (t_kindParts : (Nat → Int32)) (t_kindSorts : (Nat → Int32)) (t_kinds : (Nat → Int32)) (v1 : Int32) (v2 : Int32) (v3 : Int32) (v4 : Int32) (v5 : Int32) (r : (Unit × Int32 × Int32 × Int32 × (Nat → Int32) × (Nat → Int32) × (Nat → Int32) × (Nat → Int32) × (Nat → Int32) × (Nat → Int32))), xf_rf_kind_160 t_size t_text k126 n t_at t_fault t_from t_kindLetters t_kindMay t_kindNames t_kindParts t_kindSorts t_kinds v1 v2 v3 v4 v5 = some r → xV xm_P l g (48, xm_i48, xm_I48, 0, 0, 160, [(0, .ref 59), (1, .int v1), (2, .int v2), (3, .int v3), (4, .int v4), (5, .int v5)], [], xw_R X s_57_0 t_size t_at t_fault t_from s_57_24 t_text a_59 t_kinds t_kindLetters t_kindNames t_kindParts t_kindSorts t_kindMay a_66 a_67 a_68 a_69 a_70 a_71 a_72 a_73 a_74 a_75 l_76) (.inl none, xw_R X s_57_0 t_size r.2.1 r.2.2.1 r.2.2.2.1 s_57_24 t_text a_59 r.2.2.2.2.2.2.2.2.2 r.2.2.2.2.1 r.2.2.2.2.2.2.1 r.2.2.2.2.2.2.2.1 r.2.2.2.2.2.2.2.2.1 r.2.2.2.2.2.1 a_66 a_67 a_68 a_69 a_70 a_71 a_72 a_73 a_74 a_75 l_76) := by
  intro t_at t_fault t_from t_kindLetters t_kindMay t_kindNames t_kindParts t_kindSorts t_kinds v1 v2 v3 v4 v5 r h
  unfold xf_rf_kind_160 at h
  refine xe_seg ok 2 (G := (fun K => if v4 = (0 : Int32) then K (48, xm_i48, xm_I48, 0, 0, 165, [(0, .ref 59), (1, .int v1), (2, .int v2), (3, .int v3), (4, .int v4), (5, .int v5)], [], xw_R X s_57_0 t_size t_at t_fault t_from s_57_24 t_text a_59 t_kinds t_kindLetters t_kindNames t_kindParts t_kindSorts t_kindMay a_66 a_67 a_68 a_69 a_70 a_71 a_72 a_73 a_74 a_75 l_76) else K (48, xm_i48, xm_I48, 0, 0, 192, [(0, .ref 59), (1, .int v1), (2, .int v2), (3, .int v3), (4, .int v4), (5, .int v5)], [], xw_R X s_57_0 t_size t_at t_fault t_from s_57_24 t_text a_59 t_kinds t_kindLetters t_kindNames t_kindParts t_kindSorts t_kindMay a_66 a_67 a_68 a_69 a_70 a_71 a_72 a_73 a_74 a_75 l_76))) (fun K => rfl) ?_
  rcases xb_if h with ⟨hc667, h⟩ | ⟨hc667, h⟩
  · refine xe_pos hc667 (xe_k ?_)
    refine xe_seg ok 3 (G := (fun K => if v5 = ((63 : Int32)) then K (48, xm_i48, xm_I48, 0, 0, 172, [(0, .ref 59), (1, .int v1), (2, .int v2), (3, .int v3), (4, .int v4), (5, .int v5)], [], xw_R X s_57_0 t_size t_at t_fault t_from s_57_24 t_text a_59 t_kinds t_kindLetters t_kindNames t_kindParts t_kindSorts t_kindMay a_66 a_67 a_68 a_69 a_70 a_71 a_72 a_73 a_74 a_75 l_76) else K (48, xm_i48, xm_I48, 0, 0, 192, [(0, .ref 59), (1, .int v1), (2, .int v2), (3, .int v3), (4, .int v4), (5, .int v5)], [], xw_R X s_57_0 t_size t_at t_fault t_from s_57_24 t_text a_59 t_kinds t_kindLetters t_kindNames t_kindParts t_kindSorts t_kindMay a_66 a_67 a_68 a_69 a_70 a_71 a_72 a_73 a_74 a_75 l_76))) (fun K => rfl) ?_
    rcases xb_if h with ⟨hc668, h⟩ | ⟨hc668, h⟩
    · refine xe_pos hc668 (xe_k ?_)
      refine xe_seg ok 11 (G := (fun K => if xr_in (((((8 : Int32)) * v1) + v2) - ((1 : Int32))) 192 = true then K (48, xm_i48, xm_I48, 0, 0, 186, [(0, .ref 59), (1, .int v1), (2, .int v2), (3, .int v3), (4, .int v4), (5, .int v5)], [], xw_R X s_57_0 t_size t_at t_fault t_from s_57_24 t_text a_59 t_kinds t_kindLetters t_kindNames t_kindParts t_kindSorts (upd t_kindMay (((((8 : Int32)) * v1) + v2) - ((1 : Int32))).toNatClampNeg (vp_nar .boolean ((1 : Int32)))) a_66 a_67 a_68 a_69 a_70 a_71 a_72 a_73 a_74 a_75 l_76) else none)) (fun K => rfl) ?_
      obtain ⟨hg669, h⟩ := xn_if h
      refine xe_pos hg669 (xe_k ?_)
      refine xe_seg ok 3 (G := (fun K => K (48, xm_i48, xm_I48, 0, 0, 252, [(0, .ref 59), (1, .int v1), (2, .int v2), (3, .int v3), (4, .int ((1 : Int32))), (5, .int v5)], [], xw_R X s_57_0 t_size t_at t_fault t_from s_57_24 t_text a_59 t_kinds t_kindLetters t_kindNames t_kindParts t_kindSorts (upd t_kindMay (((((8 : Int32)) * v1) + v2) - ((1 : Int32))).toNatClampNeg (vp_nar .boolean ((1 : Int32)))) a_66 a_67 a_68 a_69 a_70 a_71 a_72 a_73 a_74 a_75 l_76))) (fun K => rfl) ?_
      refine xe_k ?_
      refine xe_sub [true, true, true, true, true, false] (lv' := [(0, .ref 59), (1, .int v1), (2, .int v2), (3, .int v3), (4, .int ((1 : Int32)))]) rfl ?_
      have hz := xh_rf_kind_57_252 (l := l) (g := g) ok a_59 a_66 a_67 a_68 a_69 a_70 a_71 a_72 a_73 a_74 a_75 l_76 s_57_0 s_57_24 X t_size t_text hk126 n t_at t_fault t_from t_kindLetters (upd t_kindMay (((((8 : Int32)) * v1) + v2) - ((1 : Int32))).toNatClampNeg (vp_nar .boolean ((1 : Int32)))) t_kindNames t_kindParts t_kindSorts t_kinds v1 v2 v3 ((1 : Int32)) _ h
      exact hz
    · refine xe_neg hc668 (xe_k ?_)
      refine xe_sub [true, true, true, true, true, true] (lv' := [(0, .ref 59), (1, .int v1), (2, .int v2), (3, .int v3), (4, .int v4), (5, .int v5)]) rfl ?_
      have hz := xh_rf_kind_57_192 (l := l) (g := g) ok a_59 a_66 a_67 a_68 a_69 a_70 a_71 a_72 a_73 a_74 a_75 l_76 s_57_0 s_57_24 X t_size t_text hk126 n t_at t_fault t_from t_kindLetters t_kindMay t_kindNames t_kindParts t_kindSorts t_kinds v1 v2 v3 v4 v5 _ h
      exact hz
  · refine xe_neg hc667 (xe_k ?_)
    refine xe_sub [true, true, true, true, true, true] (lv' := [(0, .ref 59), (1, .int v1), (2, .int v2), (3, .int v3), (4, .int v4), (5, .int v5)]) rfl ?_
    have hz := xh_rf_kind_57_192 (l := l) (g := g) ok a_59 a_66 a_67 a_68 a_69 a_70 a_71 a_72 a_73 a_74 a_75 l_76 s_57_0 s_57_24 X t_size t_text hk126 n t_at t_fault t_from t_kindLetters t_kindMay t_kindNames t_kindParts t_kindSorts t_kinds v1 v2 v3 v4 v5 _ h
    exact hz
set_option maxHeartbeats 400000 in
theorem xh_rf_kind_57_126 {l : Launch} {g : xr_G} (ok : xr_OK xm_P) (a_59 a_66 a_67 a_68 a_69 a_70 a_71 a_72 a_73 a_74 a_75 : Nat → Int32) (l_76 : Nat → Int64) (s_57_0 s_57_24 : Int32) (X : Nat → xr_C) (t_size : Int32) (t_text : (Nat → Int32)) (n : Nat) : ∀ (N : Nat) (t_at : Int32) (t_fault : Int32) (t_from : Int32) (t_kindLetters : (Nat → Int32)) (t_kindMay : (Nat → Int32)) (t_kindNames : (Nat → Int32)) (t_kindParts : (Nat → Int32)) (t_kindSorts : (Nat → Int32)) (t_kinds : (Nat → Int32)) (v1 : Int32) (v2 : Int32) (v3 : Int32) (v4 : Int32) (r : (Unit × Int32 × Int32 × Int32 × (Nat → Int32) × (Nat → Int32) × (Nat → Int32) × (Nat → Int32) × (Nat → Int32) × (Nat → Int32))), xf_rf_kind_126 t_size t_text n N t_at t_fault t_from t_kindLetters t_kindMay t_kindNames t_kindParts t_kindSorts t_kinds v1 v2 v3 v4 = some r → xV xm_P l g (48, xm_i48, xm_I48, 0, 0, 126, [(0, .ref 59), (1, .int v1), (2, .int v2), (3, .int v3), (4, .int v4)], [], xw_R X s_57_0 t_size t_at t_fault t_from s_57_24 t_text a_59 t_kinds t_kindLetters t_kindNames t_kindParts t_kindSorts t_kindMay a_66 a_67 a_68 a_69 a_70 a_71 a_72 a_73 a_74 a_75 l_76) (.inl none, xw_R X s_57_0 t_size r.2.1 r.2.2.1 r.2.2.2.1 s_57_24 t_text a_59 r.2.2.2.2.2.2.2.2.2 r.2.2.2.2.1 r.2.2.2.2.2.2.1 r.2.2.2.2.2.2.2.1 r.2.2.2.2.2.2.2.2.1 r.2.2.2.2.2.1 a_66 a_67 a_68 a_69 a_70 a_71 a_72 a_73 a_74 a_75 l_76) := by
  intro N
  induction N with
  | zero => intro t_at t_fault t_from t_kindLetters t_kindMay t_kindNames t_kindParts t_kindSorts t_kinds v1 v2 v3 v4 r h; cases h
  | succ N hk126 =>
    intro t_at t_fault t_from t_kindLetters t_kindMay t_kindNames t_kindParts t_kindSorts t_kinds v1 v2 v3 v4 r h
    refine xe_seg ok 2 (G := (fun K => if v3 = (0 : Int32) then K (48, xm_i48, xm_I48, 0, 0, 265, [(0, .ref 59), (1, .int v1), (2, .int v2), (3, .int v3), (4, .int v4)], [], xw_R X s_57_0 t_size t_at t_fault t_from s_57_24 t_text a_59 t_kinds t_kindLetters t_kindNames t_kindParts t_kindSorts t_kindMay a_66 a_67 a_68 a_69 a_70 a_71 a_72 a_73 a_74 a_75 l_76) else K (48, xm_i48, xm_I48, 0, 0, 130, [(0, .ref 59), (1, .int v1), (2, .int v2), (3, .int v3), (4, .int v4)], [], xw_R X s_57_0 t_size t_at t_fault t_from s_57_24 t_text a_59 t_kinds t_kindLetters t_kindNames t_kindParts t_kindSorts t_kindMay a_66 a_67 a_68 a_69 a_70 a_71 a_72 a_73 a_74 a_75 l_76))) (fun K => rfl) ?_
    rcases xb_if h with ⟨hc661, h⟩ | ⟨hc661, h⟩
    · refine xe_pos hc661 (xe_k ?_)
      refine xe_sub [true, true, true, false, false] (lv' := [(0, .ref 59), (1, .int v1), (2, .int v2)]) rfl ?_
      have hz := xh_rf_kind_57_265 (l := l) (g := g) ok a_59 a_66 a_67 a_68 a_69 a_70 a_71 a_72 a_73 a_74 a_75 l_76 s_57_0 s_57_24 X t_size t_text n t_at t_fault t_from t_kindLetters t_kindMay t_kindNames t_kindParts t_kindSorts t_kinds v1 v2 _ h
      exact hz
    · refine xe_neg hc661 (xe_k ?_)
      refine xe_seg ok 4 (G := (fun K => if t_fault = ((-1 : Int32)) then K (48, xm_i48, xm_I48, 0, 0, 138, [(0, .ref 59), (1, .int v1), (2, .int v2), (3, .int v3), (4, .int v4)], [], xw_R X s_57_0 t_size t_at t_fault t_from s_57_24 t_text a_59 t_kinds t_kindLetters t_kindNames t_kindParts t_kindSorts t_kindMay a_66 a_67 a_68 a_69 a_70 a_71 a_72 a_73 a_74 a_75 l_76) else K (48, xm_i48, xm_I48, 0, 0, 265, [(0, .ref 59), (1, .int v1), (2, .int v2), (3, .int v3), (4, .int v4)], [], xw_R X s_57_0 t_size t_at t_fault t_from s_57_24 t_text a_59 t_kinds t_kindLetters t_kindNames t_kindParts t_kindSorts t_kindMay a_66 a_67 a_68 a_69 a_70 a_71 a_72 a_73 a_74 a_75 l_76))) (fun K => rfl) ?_
      rcases xb_if h with ⟨hc663, h⟩ | ⟨hc663, h⟩
      · refine xe_pos hc663 (xe_k ?_)
        refine xe_seg ok 2 (G := (fun K => xr_back K 48 xm_i48 xm_I48 0 0 139 [(0, .ref 59), (1, .int v1), (2, .int v2), (3, .int v3), (4, .int v4)] [] 78 true (K (36, xm_i36, xm_I36, 0, 0, 0, [(0, .ref 59)], [], xw_R X s_57_0 t_size t_at t_fault t_from s_57_24 t_text a_59 t_kinds t_kindLetters t_kindNames t_kindParts t_kindSorts t_kindMay a_66 a_67 a_68 a_69 a_70 a_71 a_72 a_73 a_74 a_75 l_76)))) (fun K => rfl) ?_
        obtain ⟨q664, hq664, h⟩ := Option.bind_eq_some_iff.mp h
        have heq664 := xh_rf_peek_57 (l := l) (g := g) ok a_59 t_kinds t_kindLetters t_kindNames t_kindParts t_kindSorts t_kindMay a_66 a_67 a_68 a_69 a_70 a_71 a_72 a_73 a_74 a_75 l_76 s_57_0 t_fault t_from s_57_24 X t_size t_text n t_at _ hq664
        refine xe_call1 (ws' := xw_R X s_57_0 t_size q664.2 t_fault t_from s_57_24 t_text a_59 t_kinds t_kindLetters t_kindNames t_kindParts t_kindSorts t_kindMay a_66 a_67 a_68 a_69 a_70 a_71 a_72 a_73 a_74 a_75 l_76) (by decide) heq664 (Or.inl rfl) ?_
        refine xe_seg ok 3 (G := (fun K => if (0 : Int32) < v2 then K (48, xm_i48, xm_I48, 0, 0, 148, [(0, .ref 59), (1, .int v1), (2, .int v2), (3, .int v3), (4, .int v4), (5, .int q664.1)], [], xw_R X s_57_0 t_size q664.2 t_fault t_from s_57_24 t_text a_59 t_kinds t_kindLetters t_kindNames t_kindParts t_kindSorts t_kindMay a_66 a_67 a_68 a_69 a_70 a_71 a_72 a_73 a_74 a_75 l_76) else K (48, xm_i48, xm_I48, 0, 0, 160, [(0, .ref 59), (1, .int v1), (2, .int v2), (3, .int v3), (4, .int v4), (5, .int q664.1)], [], xw_R X s_57_0 t_size q664.2 t_fault t_from s_57_24 t_text a_59 t_kinds t_kindLetters t_kindNames t_kindParts t_kindSorts t_kindMay a_66 a_67 a_68 a_69 a_70 a_71 a_72 a_73 a_74 a_75 l_76))) (fun K => rfl) ?_
        rcases xb_if h with ⟨hc665, h⟩ | ⟨hc665, h⟩
        · refine xe_pos hc665 (xe_k ?_)
          refine xe_seg ok 3 (G := (fun K => if q664.1 = ((59 : Int32)) then K (48, xm_i48, xm_I48, 0, 0, 155, [(0, .ref 59), (1, .int v1), (2, .int v2), (3, .int v3), (4, .int v4), (5, .int q664.1)], [], xw_R X s_57_0 t_size q664.2 t_fault t_from s_57_24 t_text a_59 t_kinds t_kindLetters t_kindNames t_kindParts t_kindSorts t_kindMay a_66 a_67 a_68 a_69 a_70 a_71 a_72 a_73 a_74 a_75 l_76) else K (48, xm_i48, xm_I48, 0, 0, 160, [(0, .ref 59), (1, .int v1), (2, .int v2), (3, .int v3), (4, .int v4), (5, .int q664.1)], [], xw_R X s_57_0 t_size q664.2 t_fault t_from s_57_24 t_text a_59 t_kinds t_kindLetters t_kindNames t_kindParts t_kindSorts t_kindMay a_66 a_67 a_68 a_69 a_70 a_71 a_72 a_73 a_74 a_75 l_76))) (fun K => rfl) ?_
          rcases xb_if h with ⟨hc666, h⟩ | ⟨hc666, h⟩
          · refine xe_pos hc666 (xe_k ?_)
            refine xe_seg ok 3 (G := (fun K => K (48, xm_i48, xm_I48, 0, 0, 252, [(0, .ref 59), (1, .int v1), (2, .int v2), (3, .int ((0 : Int32))), (4, .int v4), (5, .int q664.1)], [], xw_R X s_57_0 t_size q664.2 t_fault t_from s_57_24 t_text a_59 t_kinds t_kindLetters t_kindNames t_kindParts t_kindSorts t_kindMay a_66 a_67 a_68 a_69 a_70 a_71 a_72 a_73 a_74 a_75 l_76))) (fun K => rfl) ?_
            refine xe_k ?_
            refine xe_sub [true, true, true, true, true, false] (lv' := [(0, .ref 59), (1, .int v1), (2, .int v2), (3, .int ((0 : Int32))), (4, .int v4)]) rfl ?_
            have hz := xh_rf_kind_57_252 (l := l) (g := g) ok a_59 a_66 a_67 a_68 a_69 a_70 a_71 a_72 a_73 a_74 a_75 l_76 s_57_0 s_57_24 X t_size t_text hk126 n q664.2 t_fault t_from t_kindLetters t_kindMay t_kindNames t_kindParts t_kindSorts t_kinds v1 v2 ((0 : Int32)) v4 _ h
            exact hz
          · refine xe_neg hc666 (xe_k ?_)
            refine xe_sub [true, true, true, true, true, true] (lv' := [(0, .ref 59), (1, .int v1), (2, .int v2), (3, .int v3), (4, .int v4), (5, .int q664.1)]) rfl ?_
            have hz := xh_rf_kind_57_160 (l := l) (g := g) ok a_59 a_66 a_67 a_68 a_69 a_70 a_71 a_72 a_73 a_74 a_75 l_76 s_57_0 s_57_24 X t_size t_text hk126 n q664.2 t_fault t_from t_kindLetters t_kindMay t_kindNames t_kindParts t_kindSorts t_kinds v1 v2 v3 v4 q664.1 _ h
            exact hz
        · refine xe_neg hc665 (xe_k ?_)
          refine xe_sub [true, true, true, true, true, true] (lv' := [(0, .ref 59), (1, .int v1), (2, .int v2), (3, .int v3), (4, .int v4), (5, .int q664.1)]) rfl ?_
          have hz := xh_rf_kind_57_160 (l := l) (g := g) ok a_59 a_66 a_67 a_68 a_69 a_70 a_71 a_72 a_73 a_74 a_75 l_76 s_57_0 s_57_24 X t_size t_text hk126 n q664.2 t_fault t_from t_kindLetters t_kindMay t_kindNames t_kindParts t_kindSorts t_kinds v1 v2 v3 v4 q664.1 _ h
          exact hz
      · refine xe_neg hc663 (xe_k ?_)
        refine xe_sub [true, true, true, false, false] (lv' := [(0, .ref 59), (1, .int v1), (2, .int v2)]) rfl ?_
        have hz := xh_rf_kind_57_265 (l := l) (g := g) ok a_59 a_66 a_67 a_68 a_69 a_70 a_71 a_72 a_73 a_74 a_75 l_76 s_57_0 s_57_24 X t_size t_text n t_at t_fault t_from t_kindLetters t_kindMay t_kindNames t_kindParts t_kindSorts t_kinds v1 v2 _ h
        exact hz
set_option maxHeartbeats 400000 in
theorem xh_rf_kind_57_51 {l : Launch} {g : xr_G} (ok : xr_OK xm_P) (a_59 a_66 a_67 a_68 a_69 a_70 a_71 a_72 a_73 a_74 a_75 : Nat → Int32) (l_76 : Nat → Int64) (s_57_0 s_57_24 : Int32) (X : Nat → xr_C) (t_size : Int32) (t_text : (Nat → Int32)) (n : Nat) : ∀ (N : Nat) (t_at : Int32) (t_fault : Int32) (t_from : Int32) (t_kindLetters : (Nat → Int32)) (t_kindMay : (Nat → Int32)) (t_kindNames : (Nat → Int32)) (t_kindParts : (Nat → Int32)) (t_kindSorts : (Nat → Int32)) (t_kinds : (Nat → Int32)) (v1 : Int32) (v2 : Int32) (r : (Unit × Int32 × Int32 × Int32 × (Nat → Int32) × (Nat → Int32) × (Nat → Int32) × (Nat → Int32) × (Nat → Int32) × (Nat → Int32))), xf_rf_kind_51 t_size t_text n N t_at t_fault t_from t_kindLetters t_kindMay t_kindNames t_kindParts t_kindSorts t_kinds v1 v2 = some r → xV xm_P l g (48, xm_i48, xm_I48, 0, 0, 51, [(0, .ref 59), (1, .int v1), (2, .int v2)], [], xw_R X s_57_0 t_size t_at t_fault t_from s_57_24 t_text a_59 t_kinds t_kindLetters t_kindNames t_kindParts t_kindSorts t_kindMay a_66 a_67 a_68 a_69 a_70 a_71 a_72 a_73 a_74 a_75 l_76) (.inl none, xw_R X s_57_0 t_size r.2.1 r.2.2.1 r.2.2.2.1 s_57_24 t_text a_59 r.2.2.2.2.2.2.2.2.2 r.2.2.2.2.1 r.2.2.2.2.2.2.1 r.2.2.2.2.2.2.2.1 r.2.2.2.2.2.2.2.2.1 r.2.2.2.2.2.1 a_66 a_67 a_68 a_69 a_70 a_71 a_72 a_73 a_74 a_75 l_76) := by
  intro N
  induction N with
  | zero => intro t_at t_fault t_from t_kindLetters t_kindMay t_kindNames t_kindParts t_kindSorts t_kinds v1 v2 r h; cases h
  | succ N hk51 =>
    intro t_at t_fault t_from t_kindLetters t_kindMay t_kindNames t_kindParts t_kindSorts t_kinds v1 v2 r h
    refine xe_seg ok 3 (G := (fun K => if v2 < v1 then K (48, xm_i48, xm_I48, 0, 0, 56, [(0, .ref 59), (1, .int v1), (2, .int v2)], [], xw_R X s_57_0 t_size t_at t_fault t_from s_57_24 t_text a_59 t_kinds t_kindLetters t_kindNames t_kindParts t_kindSorts t_kindMay a_66 a_67 a_68 a_69 a_70 a_71 a_72 a_73 a_74 a_75 l_76) else K (48, xm_i48, xm_I48, 0, 0, 113, [(0, .ref 59), (1, .int v1), (2, .int v2)], [], xw_R X s_57_0 t_size t_at t_fault t_from s_57_24 t_text a_59 t_kinds t_kindLetters t_kindNames t_kindParts t_kindSorts t_kindMay a_66 a_67 a_68 a_69 a_70 a_71 a_72 a_73 a_74 a_75 l_76))) (fun K => rfl) ?_
    rcases xb_if h with ⟨hc642, h⟩ | ⟨hc642, h⟩
    · refine xe_pos hc642 (xe_k ?_)
      refine xe_seg ok 4 (G := (fun K => if xr_in v2 24 = true then K (48, xm_i48, xm_I48, 0, 0, 62, [(0, .ref 59), (1, .int v1), (2, .int v2)], [.int (t_kindLetters v2.toNatClampNeg)], xw_R X s_57_0 t_size t_at t_fault t_from s_57_24 t_text a_59 t_kinds t_kindLetters t_kindNames t_kindParts t_kindSorts t_kindMay a_66 a_67 a_68 a_69 a_70 a_71 a_72 a_73 a_74 a_75 l_76) else none)) (fun K => rfl) ?_
      obtain ⟨hg643, h⟩ := xn_if h
      refine xe_pos hg643 (xe_k ?_)
      refine xe_seg ok 4 (G := (fun K => if xr_in v1 24 = true then K (48, xm_i48, xm_I48, 0, 0, 68, [(0, .ref 59), (1, .int v1), (2, .int v2)], [.int (t_kindLetters v1.toNatClampNeg), .int (t_kindLetters v2.toNatClampNeg)], xw_R X s_57_0 t_size t_at t_fault t_from s_57_24 t_text a_59 t_kinds t_kindLetters t_kindNames t_kindParts t_kindSorts t_kindMay a_66 a_67 a_68 a_69 a_70 a_71 a_72 a_73 a_74 a_75 l_76) else none)) (fun K => rfl) ?_
      obtain ⟨hg644, h⟩ := xn_if h
      refine xe_pos hg644 (xe_k ?_)
      refine xe_seg ok 1 (G := (fun K => if (t_kindLetters v2.toNatClampNeg) = (t_kindLetters v1.toNatClampNeg) then K (48, xm_i48, xm_I48, 0, 0, 71, [(0, .ref 59), (1, .int v1), (2, .int v2)], [], xw_R X s_57_0 t_size t_at t_fault t_from s_57_24 t_text a_59 t_kinds t_kindLetters t_kindNames t_kindParts t_kindSorts t_kindMay a_66 a_67 a_68 a_69 a_70 a_71 a_72 a_73 a_74 a_75 l_76) else K (48, xm_i48, xm_I48, 0, 0, 107, [(0, .ref 59), (1, .int v1), (2, .int v2)], [], xw_R X s_57_0 t_size t_at t_fault t_from s_57_24 t_text a_59 t_kinds t_kindLetters t_kindNames t_kindParts t_kindSorts t_kindMay a_66 a_67 a_68 a_69 a_70 a_71 a_72 a_73 a_74 a_75 l_76))) (fun K => rfl) ?_
      rcases xb_if h with ⟨hc645, h⟩ | ⟨hc645, h⟩
      · refine xe_pos hc645 (xe_k ?_)
        refine xe_seg ok 14 (G := (fun K => if xr_in v1 24 = true then K (48, xm_i48, xm_I48, 0, 0, 93, [(0, .ref 59), (1, .int v1), (2, .int v2)], [.int (t_kindLetters v1.toNatClampNeg), .int (((8 : Int32)) * v1), .ref 64, .int (((8 : Int32)) * v2), .ref 64], xw_R X s_57_0 t_size t_at t_fault t_from s_57_24 t_text a_59 t_kinds t_kindLetters t_kindNames t_kindParts t_kindSorts t_kindMay a_66 a_67 a_68 a_69 a_70 a_71 a_72 a_73 a_74 a_75 l_76) else none)) (fun K => rfl) ?_
        obtain ⟨hg646, h⟩ := xn_if h
        refine xe_pos hg646 (xe_k ?_)
        refine xe_seg ok 1 (G := (fun K => xr_back K 48 xm_i48 xm_I48 0 0 93 [(0, .ref 59), (1, .int v1), (2, .int v2)] [] 78 true (K (47, xm_i47, xm_I47, 0, 0, 0, [(0, .ref 64), (1, .int (((8 : Int32)) * v2)), (2, .ref 64), (3, .int (((8 : Int32)) * v1)), (4, .int (t_kindLetters v1.toNatClampNeg))], [], xw_R X s_57_0 t_size t_at t_fault t_from s_57_24 t_text a_59 t_kinds t_kindLetters t_kindNames t_kindParts t_kindSorts t_kindMay a_66 a_67 a_68 a_69 a_70 a_71 a_72 a_73 a_74 a_75 l_76)))) (fun K => rfl) ?_
        obtain ⟨q653, hq653, h⟩ := Option.bind_eq_some_iff.mp h
        have heq653 := xh_rf_isSame_62_62 (l := l) (g := g) ok t_text a_59 t_kinds t_kindLetters t_kindParts t_kindSorts t_kindMay a_66 a_67 a_68 a_69 a_70 a_71 a_72 a_73 a_74 a_75 l_76 s_57_0 t_size t_at t_fault t_from s_57_24 X t_kindNames n (((8 : Int32)) * v2) (((8 : Int32)) * v1) (t_kindLetters v1.toNatClampNeg) _ hq653
        refine xe_call1 (ws' := xw_R X s_57_0 t_size t_at t_fault t_from s_57_24 t_text a_59 t_kinds t_kindLetters t_kindNames t_kindParts t_kindSorts t_kindMay a_66 a_67 a_68 a_69 a_70 a_71 a_72 a_73 a_74 a_75 l_76) (by decide) heq653 (Or.inl rfl) ?_
        refine xe_seg ok 1 (G := (fun K => if q653 = (0 : Int32) then K (48, xm_i48, xm_I48, 0, 0, 107, [(0, .ref 59), (1, .int v1), (2, .int v2)], [], xw_R X s_57_0 t_size t_at t_fault t_from s_57_24 t_text a_59 t_kinds t_kindLetters t_kindNames t_kindParts t_kindSorts t_kindMay a_66 a_67 a_68 a_69 a_70 a_71 a_72 a_73 a_74 a_75 l_76) else K (48, xm_i48, xm_I48, 0, 0, 99, [(0, .ref 59), (1, .int v1), (2, .int v2)], [], xw_R X s_57_0 t_size t_at t_fault t_from s_57_24 t_text a_59 t_kinds t_kindLetters t_kindNames t_kindParts t_kindSorts t_kindMay a_66 a_67 a_68 a_69 a_70 a_71 a_72 a_73 a_74 a_75 l_76))) (fun K => rfl) ?_
        rcases xb_if h with ⟨hc654, h⟩ | ⟨hc654, h⟩
        · refine xe_pos hc654 (xe_k ?_)
          refine xe_sub [true, true, true] (lv' := [(0, .ref 59), (1, .int v1), (2, .int v2)]) rfl ?_
          have hz := xh_rf_kind_57_107 (l := l) (g := g) ok a_59 a_66 a_67 a_68 a_69 a_70 a_71 a_72 a_73 a_74 a_75 l_76 s_57_0 s_57_24 X t_size t_text hk51 n t_at t_fault t_from t_kindLetters t_kindMay t_kindNames t_kindParts t_kindSorts t_kinds v1 v2 _ h
          exact hz
        · refine xe_neg hc654 (xe_k ?_)
          refine xe_seg ok 4 (G := (fun K => xr_back K 48 xm_i48 xm_I48 0 0 104 [(0, .ref 59), (1, .int v1), (2, .int v2)] [] 78 true (K (39, xm_i39, xm_I39, 0, 0, 0, [(0, .ref 59), (1, .int t_from)], [], xw_R X s_57_0 t_size t_at t_fault t_from s_57_24 t_text a_59 t_kinds t_kindLetters t_kindNames t_kindParts t_kindSorts t_kindMay a_66 a_67 a_68 a_69 a_70 a_71 a_72 a_73 a_74 a_75 l_76)))) (fun K => rfl) ?_
          obtain ⟨q655, hq655, h⟩ := Option.bind_eq_some_iff.mp h
          have heq655 := xh_rf_wrongAt_57 (l := l) (g := g) ok t_text a_59 t_kinds t_kindLetters t_kindNames t_kindParts t_kindSorts t_kindMay a_66 a_67 a_68 a_69 a_70 a_71 a_72 a_73 a_74 a_75 l_76 s_57_0 t_size t_at t_from s_57_24 X t_fault t_from _ hq655
          refine xe_call0 (ws' := xw_R X s_57_0 t_size t_at q655.2 t_from s_57_24 t_text a_59 t_kinds t_kindLetters t_kindNames t_kindParts t_kindSorts t_kindMay a_66 a_67 a_68 a_69 a_70 a_71 a_72 a_73 a_74 a_75 l_76) (by decide) heq655 (Or.inl rfl) ?_
          refine xe_sub [true, true, true] (lv' := [(0, .ref 59), (1, .int v1), (2, .int v2)]) rfl ?_
          have hz := xh_rf_kind_57_107 (l := l) (g := g) ok a_59 a_66 a_67 a_68 a_69 a_70 a_71 a_72 a_73 a_74 a_75 l_76 s_57_0 s_57_24 X t_size t_text hk51 n t_at q655.2 t_from t_kindLetters t_kindMay t_kindNames t_kindParts t_kindSorts t_kinds v1 v2 _ h
          exact hz
      · refine xe_neg hc645 (xe_k ?_)
        refine xe_sub [true, true, true] (lv' := [(0, .ref 59), (1, .int v1), (2, .int v2)]) rfl ?_
        have hz := xh_rf_kind_57_107 (l := l) (g := g) ok a_59 a_66 a_67 a_68 a_69 a_70 a_71 a_72 a_73 a_74 a_75 l_76 s_57_0 s_57_24 X t_size t_text hk51 n t_at t_fault t_from t_kindLetters t_kindMay t_kindNames t_kindParts t_kindSorts t_kinds v1 v2 _ h
        exact hz
    · refine xe_neg hc642 (xe_k ?_)
      refine xe_seg ok 3 (G := (fun K => xr_back K 48 xm_i48 xm_I48 0 0 116 [(0, .ref 59), (1, .int v1), (2, .int v2)] [] 78 true (K (40, xm_i40, xm_I40, 0, 0, 0, [(0, .ref 59), (1, .int ((61 : Int32)))], [], xw_R X s_57_0 t_size t_at t_fault t_from s_57_24 t_text a_59 t_kinds t_kindLetters t_kindNames t_kindParts t_kindSorts t_kindMay a_66 a_67 a_68 a_69 a_70 a_71 a_72 a_73 a_74 a_75 l_76)))) (fun K => rfl) ?_
      obtain ⟨q660, hq660, h⟩ := Option.bind_eq_some_iff.mp h
      have heq660 := xh_rf_sign_57 (l := l) (g := g) ok a_59 t_kinds t_kindLetters t_kindNames t_kindParts t_kindSorts t_kindMay a_66 a_67 a_68 a_69 a_70 a_71 a_72 a_73 a_74 a_75 l_76 s_57_0 t_from s_57_24 X t_size t_text n t_at t_fault ((61 : Int32)) _ hq660
      refine xe_call0 (ws' := xw_R X s_57_0 t_size q660.2.1 q660.2.2 t_from s_57_24 t_text a_59 t_kinds t_kindLetters t_kindNames t_kindParts t_kindSorts t_kindMay a_66 a_67 a_68 a_69 a_70 a_71 a_72 a_73 a_74 a_75 l_76) (by decide) heq660 (Or.inl rfl) ?_
      refine xe_seg ok 6 (G := (fun K => K (48, xm_i48, xm_I48, 0, 0, 126, [(0, .ref 59), (1, .int v1), (2, .int ((0 : Int32))), (3, .int ((1 : Int32))), (4, .int ((1 : Int32)))], [], xw_R X s_57_0 t_size q660.2.1 q660.2.2 t_from s_57_24 t_text a_59 t_kinds t_kindLetters t_kindNames t_kindParts t_kindSorts t_kindMay a_66 a_67 a_68 a_69 a_70 a_71 a_72 a_73 a_74 a_75 l_76))) (fun K => rfl) ?_
      refine xe_k ?_
      refine xe_sub [true, true, true, true, true] (lv' := [(0, .ref 59), (1, .int v1), (2, .int ((0 : Int32))), (3, .int ((1 : Int32))), (4, .int ((1 : Int32)))]) rfl ?_
      have hz := xh_rf_kind_57_126 (l := l) (g := g) ok a_59 a_66 a_67 a_68 a_69 a_70 a_71 a_72 a_73 a_74 a_75 l_76 s_57_0 s_57_24 X t_size t_text n n q660.2.1 q660.2.2 t_from t_kindLetters t_kindMay t_kindNames t_kindParts t_kindSorts t_kinds v1 ((0 : Int32)) ((1 : Int32)) ((1 : Int32)) _ h
      exact hz
set_option maxHeartbeats 400000 in
theorem xh_rf_kind_57 {l : Launch} {g : xr_G} (ok : xr_OK xm_P) (a_59 a_66 a_67 a_68 a_69 a_70 a_71 a_72 a_73 a_74 a_75 : Nat → Int32) (l_76 : Nat → Int64) (s_57_0 s_57_24 : Int32) (X : Nat → xr_C) (t_size : Int32) (t_text : (Nat → Int32)) (n : Nat) : ∀ (t_at : Int32) (t_fault : Int32) (t_from : Int32) (t_kindLetters : (Nat → Int32)) (t_kindMay : (Nat → Int32)) (t_kindNames : (Nat → Int32)) (t_kindParts : (Nat → Int32)) (t_kindSorts : (Nat → Int32)) (t_kinds : (Nat → Int32)) (r : (Unit × Int32 × Int32 × Int32 × (Nat → Int32) × (Nat → Int32) × (Nat → Int32) × (Nat → Int32) × (Nat → Int32) × (Nat → Int32))), xf_rf_kind t_size t_text n t_at t_fault t_from t_kindLetters t_kindMay t_kindNames t_kindParts t_kindSorts t_kinds = some r → xV xm_P l g (48, xm_i48, xm_I48, 0, 0, 0, [(0, .ref 59)], [], xw_R X s_57_0 t_size t_at t_fault t_from s_57_24 t_text a_59 t_kinds t_kindLetters t_kindNames t_kindParts t_kindSorts t_kindMay a_66 a_67 a_68 a_69 a_70 a_71 a_72 a_73 a_74 a_75 l_76) (.inl none, xw_R X s_57_0 t_size r.2.1 r.2.2.1 r.2.2.2.1 s_57_24 t_text a_59 r.2.2.2.2.2.2.2.2.2 r.2.2.2.2.1 r.2.2.2.2.2.2.1 r.2.2.2.2.2.2.2.1 r.2.2.2.2.2.2.2.2.1 r.2.2.2.2.2.1 a_66 a_67 a_68 a_69 a_70 a_71 a_72 a_73 a_74 a_75 l_76) := by
  intro t_at t_fault t_from t_kindLetters t_kindMay t_kindNames t_kindParts t_kindSorts t_kinds r h
  unfold xf_rf_kind at h
  refine xe_seg ok 5 (G := (fun K => if xr_in ((1 : Int32)) 2 = true then K (48, xm_i48, xm_I48, 0, 0, 8, [(0, .ref 59)], [.int (t_kinds ((1 : Int32)).toNatClampNeg), .int ((12 : Int32))], xw_R X s_57_0 t_size t_at t_fault t_from s_57_24 t_text a_59 t_kinds t_kindLetters t_kindNames t_kindParts t_kindSorts t_kindMay a_66 a_67 a_68 a_69 a_70 a_71 a_72 a_73 a_74 a_75 l_76) else none)) (fun K => rfl) ?_
  refine xe_pos (by decide) (xe_k ?_)
  refine xe_seg ok 6 (G := (fun K => if xr_in ((1 : Int32)) 2 = true then K (48, xm_i48, xm_I48, 0, 0, 16, [(0, .ref 59), (1, .int (((12 : Int32)) + (t_kinds ((1 : Int32)).toNatClampNeg)))], [.int (t_kinds ((1 : Int32)).toNatClampNeg)], xw_R X s_57_0 t_size t_at t_fault t_from s_57_24 t_text a_59 t_kinds t_kindLetters t_kindNames t_kindParts t_kindSorts t_kindMay a_66 a_67 a_68 a_69 a_70 a_71 a_72 a_73 a_74 a_75 l_76) else none)) (fun K => rfl) ?_
  refine xe_pos (by decide) (xe_k ?_)
  refine xe_seg ok 2 (G := (fun K => if (t_kinds ((1 : Int32)).toNatClampNeg) = ((12 : Int32)) then K (48, xm_i48, xm_I48, 0, 0, 21, [(0, .ref 59), (1, .int (((12 : Int32)) + (t_kinds ((1 : Int32)).toNatClampNeg)))], [], xw_R X s_57_0 t_size t_at t_fault t_from s_57_24 t_text a_59 t_kinds t_kindLetters t_kindNames t_kindParts t_kindSorts t_kindMay a_66 a_67 a_68 a_69 a_70 a_71 a_72 a_73 a_74 a_75 l_76) else K (48, xm_i48, xm_I48, 0, 0, 30, [(0, .ref 59), (1, .int (((12 : Int32)) + (t_kinds ((1 : Int32)).toNatClampNeg)))], [], xw_R X s_57_0 t_size t_at t_fault t_from s_57_24 t_text a_59 t_kinds t_kindLetters t_kindNames t_kindParts t_kindSorts t_kindMay a_66 a_67 a_68 a_69 a_70 a_71 a_72 a_73 a_74 a_75 l_76))) (fun K => rfl) ?_
  rcases xb_if h with ⟨hc622, h⟩ | ⟨hc622, h⟩
  · refine xe_pos hc622 (xe_k ?_)
    refine xe_seg ok 4 (G := (fun K => xr_back K 48 xm_i48 xm_I48 0 0 26 [(0, .ref 59), (1, .int (((12 : Int32)) + (t_kinds ((1 : Int32)).toNatClampNeg)))] [] 78 true (K (39, xm_i39, xm_I39, 0, 0, 0, [(0, .ref 59), (1, .int t_at)], [], xw_R X s_57_0 t_size t_at t_fault t_from s_57_24 t_text a_59 t_kinds t_kindLetters t_kindNames t_kindParts t_kindSorts t_kindMay a_66 a_67 a_68 a_69 a_70 a_71 a_72 a_73 a_74 a_75 l_76)))) (fun K => rfl) ?_
    obtain ⟨q624, hq624, h⟩ := Option.bind_eq_some_iff.mp h
    have heq624 := xh_rf_wrongAt_57 (l := l) (g := g) ok t_text a_59 t_kinds t_kindLetters t_kindNames t_kindParts t_kindSorts t_kindMay a_66 a_67 a_68 a_69 a_70 a_71 a_72 a_73 a_74 a_75 l_76 s_57_0 t_size t_at t_from s_57_24 X t_fault t_at _ hq624
    refine xe_call0 (ws' := xw_R X s_57_0 t_size t_at q624.2 t_from s_57_24 t_text a_59 t_kinds t_kindLetters t_kindNames t_kindParts t_kindSorts t_kindMay a_66 a_67 a_68 a_69 a_70 a_71 a_72 a_73 a_74 a_75 l_76) (by decide) heq624 (Or.inl rfl) ?_
    obtain rfl := Option.some.inj h
    refine xe_seg ok 1 (G := (fun _ => some (.inl none, xw_R X s_57_0 t_size t_at q624.2 t_from s_57_24 t_text a_59 t_kinds t_kindLetters t_kindNames t_kindParts t_kindSorts t_kindMay a_66 a_67 a_68 a_69 a_70 a_71 a_72 a_73 a_74 a_75 l_76))) (fun K => rfl) ?_
    exact xe_ret
  · refine xe_neg hc622 (xe_k ?_)
    refine xe_seg ok 10 (G := (fun K => xr_back K 48 xm_i48 xm_I48 0 0 44 [(0, .ref 59), (1, .int (((12 : Int32)) + (t_kinds ((1 : Int32)).toNatClampNeg)))] [.int (((12 : Int32)) + (t_kinds ((1 : Int32)).toNatClampNeg)), .ref 63] 78 true (K (42, xm_i42, xm_I42, 0, 0, 0, [(0, .ref 59), (1, .ref 64), (2, .int (((8 : Int32)) * (((12 : Int32)) + (t_kinds ((1 : Int32)).toNatClampNeg))))], [], xw_R X s_57_0 t_size t_at t_fault t_from s_57_24 t_text a_59 t_kinds t_kindLetters t_kindNames t_kindParts t_kindSorts t_kindMay a_66 a_67 a_68 a_69 a_70 a_71 a_72 a_73 a_74 a_75 l_76)))) (fun K => rfl) ?_
    obtain ⟨q640, hq640, h⟩ := Option.bind_eq_some_iff.mp h
    have heq640 := xh_rf_name_57_62 (l := l) (g := g) ok a_59 t_kinds t_kindLetters t_kindParts t_kindSorts t_kindMay a_66 a_67 a_68 a_69 a_70 a_71 a_72 a_73 a_74 a_75 l_76 s_57_0 s_57_24 X t_size t_text n t_kindNames t_at t_fault t_from (((8 : Int32)) * (((12 : Int32)) + (t_kinds ((1 : Int32)).toNatClampNeg))) _ hq640
    refine xe_call1 (ws' := xw_R X s_57_0 t_size q640.2.2.1 q640.2.2.2.1 q640.2.2.2.2 s_57_24 t_text a_59 t_kinds t_kindLetters q640.2.1 t_kindParts t_kindSorts t_kindMay a_66 a_67 a_68 a_69 a_70 a_71 a_72 a_73 a_74 a_75 l_76) (by decide) heq640 (Or.inl rfl) ?_
    refine xe_seg ok 1 (G := (fun K => if xr_in (((12 : Int32)) + (t_kinds ((1 : Int32)).toNatClampNeg)) 24 = true then K (48, xm_i48, xm_I48, 0, 0, 48, [(0, .ref 59), (1, .int (((12 : Int32)) + (t_kinds ((1 : Int32)).toNatClampNeg)))], [], xw_R X s_57_0 t_size q640.2.2.1 q640.2.2.2.1 q640.2.2.2.2 s_57_24 t_text a_59 t_kinds (upd t_kindLetters (((12 : Int32)) + (t_kinds ((1 : Int32)).toNatClampNeg)).toNatClampNeg q640.1) q640.2.1 t_kindParts t_kindSorts t_kindMay a_66 a_67 a_68 a_69 a_70 a_71 a_72 a_73 a_74 a_75 l_76) else none)) (fun K => rfl) ?_
    obtain ⟨hg641, h⟩ := xn_if h
    refine xe_pos hg641 (xe_k ?_)
    refine xe_seg ok 2 (G := (fun K => K (48, xm_i48, xm_I48, 0, 0, 51, [(0, .ref 59), (1, .int (((12 : Int32)) + (t_kinds ((1 : Int32)).toNatClampNeg))), (2, .int ((12 : Int32)))], [], xw_R X s_57_0 t_size q640.2.2.1 q640.2.2.2.1 q640.2.2.2.2 s_57_24 t_text a_59 t_kinds (upd t_kindLetters (((12 : Int32)) + (t_kinds ((1 : Int32)).toNatClampNeg)).toNatClampNeg q640.1) q640.2.1 t_kindParts t_kindSorts t_kindMay a_66 a_67 a_68 a_69 a_70 a_71 a_72 a_73 a_74 a_75 l_76))) (fun K => rfl) ?_
    refine xe_k ?_
    refine xe_sub [true, true, true] (lv' := [(0, .ref 59), (1, .int (((12 : Int32)) + (t_kinds ((1 : Int32)).toNatClampNeg))), (2, .int ((12 : Int32)))]) rfl ?_
    have hz := xh_rf_kind_57_51 (l := l) (g := g) ok a_59 a_66 a_67 a_68 a_69 a_70 a_71 a_72 a_73 a_74 a_75 l_76 s_57_0 s_57_24 X t_size t_text n n q640.2.2.1 q640.2.2.2.1 q640.2.2.2.2 (upd t_kindLetters (((12 : Int32)) + (t_kinds ((1 : Int32)).toNatClampNeg)).toNatClampNeg q640.1) t_kindMay q640.2.1 t_kindParts t_kindSorts t_kinds (((12 : Int32)) + (t_kinds ((1 : Int32)).toNatClampNeg)) ((12 : Int32)) _ h
    exact hz
set_option maxHeartbeats 400000 in
theorem xh_rf_schema_57_22 {l : Launch} {g : xr_G} (ok : xr_OK xm_P) (a_59 a_66 a_67 a_68 a_69 a_70 a_71 a_72 a_73 a_74 a_75 : Nat → Int32) (l_76 : Nat → Int64) (s_57_24 : Int32) (X : Nat → xr_C) (t_text : (Nat → Int32)) (n : Nat) : ∀ (N : Nat) (t_at : Int32) (t_fault : Int32) (t_from : Int32) (t_kindLetters : (Nat → Int32)) (t_kindMay : (Nat → Int32)) (t_kindNames : (Nat → Int32)) (t_kindParts : (Nat → Int32)) (t_kindSorts : (Nat → Int32)) (t_kinds : (Nat → Int32)) (t_size : Int32) (t_thrown : Int32) (r : (Int32 × Int32 × Int32 × Int32 × (Nat → Int32) × (Nat → Int32) × (Nat → Int32) × (Nat → Int32) × (Nat → Int32) × (Nat → Int32) × Int32 × Int32)), xf_rf_schema_22 t_text n N t_at t_fault t_from t_kindLetters t_kindMay t_kindNames t_kindParts t_kindSorts t_kinds t_size t_thrown = some r → xV xm_P l g (49, xm_i49, xm_I49, 0, 0, 22, [(0, .ref 59)], [], xw_R X t_thrown t_size t_at t_fault t_from s_57_24 t_text a_59 t_kinds t_kindLetters t_kindNames t_kindParts t_kindSorts t_kindMay a_66 a_67 a_68 a_69 a_70 a_71 a_72 a_73 a_74 a_75 l_76) (.inl (some (.int r.1)), xw_R X r.2.2.2.2.2.2.2.2.2.2.2 r.2.2.2.2.2.2.2.2.2.2.1 r.2.1 r.2.2.1 r.2.2.2.1 s_57_24 t_text a_59 r.2.2.2.2.2.2.2.2.2.1 r.2.2.2.2.1 r.2.2.2.2.2.2.1 r.2.2.2.2.2.2.2.1 r.2.2.2.2.2.2.2.2.1 r.2.2.2.2.2.1 a_66 a_67 a_68 a_69 a_70 a_71 a_72 a_73 a_74 a_75 l_76) := by
  intro N
  induction N with
  | zero => intro t_at t_fault t_from t_kindLetters t_kindMay t_kindNames t_kindParts t_kindSorts t_kinds t_size t_thrown r h; cases h
  | succ N hk22 =>
    intro t_at t_fault t_from t_kindLetters t_kindMay t_kindNames t_kindParts t_kindSorts t_kinds t_size t_thrown r h
    refine xe_seg ok 4 (G := (fun K => if t_fault = ((-1 : Int32)) then K (49, xm_i49, xm_I49, 0, 0, 30, [(0, .ref 59)], [], xw_R X t_thrown t_size t_at t_fault t_from s_57_24 t_text a_59 t_kinds t_kindLetters t_kindNames t_kindParts t_kindSorts t_kindMay a_66 a_67 a_68 a_69 a_70 a_71 a_72 a_73 a_74 a_75 l_76) else K (49, xm_i49, xm_I49, 0, 0, 44, [(0, .ref 59)], [], xw_R X t_thrown t_size t_at t_fault t_from s_57_24 t_text a_59 t_kinds t_kindLetters t_kindNames t_kindParts t_kindSorts t_kindMay a_66 a_67 a_68 a_69 a_70 a_71 a_72 a_73 a_74 a_75 l_76))) (fun K => rfl) ?_
    rcases xb_if h with ⟨hc601, h⟩ | ⟨hc601, h⟩
    · refine xe_pos hc601 (xe_k ?_)
      refine xe_seg ok 2 (G := (fun K => xr_back K 49 xm_i49 xm_I49 0 0 31 [(0, .ref 59)] [] 78 true (K (36, xm_i36, xm_I36, 0, 0, 0, [(0, .ref 59)], [], xw_R X t_thrown t_size t_at t_fault t_from s_57_24 t_text a_59 t_kinds t_kindLetters t_kindNames t_kindParts t_kindSorts t_kindMay a_66 a_67 a_68 a_69 a_70 a_71 a_72 a_73 a_74 a_75 l_76)))) (fun K => rfl) ?_
      obtain ⟨q607, hq607, h⟩ := Option.bind_eq_some_iff.mp h
      have heq607 := xh_rf_peek_57 (l := l) (g := g) ok a_59 t_kinds t_kindLetters t_kindNames t_kindParts t_kindSorts t_kindMay a_66 a_67 a_68 a_69 a_70 a_71 a_72 a_73 a_74 a_75 l_76 t_thrown t_fault t_from s_57_24 X t_size t_text n t_at _ hq607
      refine xe_call1 (ws' := xw_R X t_thrown t_size q607.2 t_fault t_from s_57_24 t_text a_59 t_kinds t_kindLetters t_kindNames t_kindParts t_kindSorts t_kindMay a_66 a_67 a_68 a_69 a_70 a_71 a_72 a_73 a_74 a_75 l_76) (by decide) heq607 (Or.inl rfl) ?_
      refine xe_seg ok 1 (G := (fun K => if q607.1 = (0 : Int32) then K (49, xm_i49, xm_I49, 0, 0, 44, [(0, .ref 59)], [], xw_R X t_thrown t_size q607.2 t_fault t_from s_57_24 t_text a_59 t_kinds t_kindLetters t_kindNames t_kindParts t_kindSorts t_kindMay a_66 a_67 a_68 a_69 a_70 a_71 a_72 a_73 a_74 a_75 l_76) else K (49, xm_i49, xm_I49, 0, 0, 37, [(0, .ref 59)], [], xw_R X t_thrown t_size q607.2 t_fault t_from s_57_24 t_text a_59 t_kinds t_kindLetters t_kindNames t_kindParts t_kindSorts t_kindMay a_66 a_67 a_68 a_69 a_70 a_71 a_72 a_73 a_74 a_75 l_76))) (fun K => rfl) ?_
      rcases xb_if h with ⟨hc608, h⟩ | ⟨hc608, h⟩
      · refine xe_pos hc608 (xe_k ?_)
        refine xe_sub [true] (lv' := [(0, .ref 59)]) rfl ?_
        have hz := xh_rf_schema_57_44 (l := l) (g := g) ok a_59 a_66 a_67 a_68 a_69 a_70 a_71 a_72 a_73 a_74 a_75 l_76 s_57_24 X t_text n q607.2 t_fault t_from t_kindLetters t_kindMay t_kindNames t_kindParts t_kindSorts t_kinds t_size t_thrown _ h
        exact hz
      · refine xe_neg hc608 (xe_k ?_)
        refine xe_seg ok 2 (G := (fun K => xr_back K 49 xm_i49 xm_I49 0 0 38 [(0, .ref 59)] [] 78 true (K (48, xm_i48, xm_I48, 0, 0, 0, [(0, .ref 59)], [], xw_R X t_thrown t_size q607.2 t_fault t_from s_57_24 t_text a_59 t_kinds t_kindLetters t_kindNames t_kindParts t_kindSorts t_kindMay a_66 a_67 a_68 a_69 a_70 a_71 a_72 a_73 a_74 a_75 l_76)))) (fun K => rfl) ?_
        obtain ⟨q693, hq693, h⟩ := Option.bind_eq_some_iff.mp h
        have heq693 := xh_rf_kind_57 (l := l) (g := g) ok a_59 a_66 a_67 a_68 a_69 a_70 a_71 a_72 a_73 a_74 a_75 l_76 t_thrown s_57_24 X t_size t_text n q607.2 t_fault t_from t_kindLetters t_kindMay t_kindNames t_kindParts t_kindSorts t_kinds _ hq693
        refine xe_call0 (ws' := xw_R X t_thrown t_size q693.2.1 q693.2.2.1 q693.2.2.2.1 s_57_24 t_text a_59 q693.2.2.2.2.2.2.2.2.2 q693.2.2.2.2.1 q693.2.2.2.2.2.2.1 q693.2.2.2.2.2.2.2.1 q693.2.2.2.2.2.2.2.2.1 q693.2.2.2.2.2.1 a_66 a_67 a_68 a_69 a_70 a_71 a_72 a_73 a_74 a_75 l_76) (by decide) heq693 (Or.inl rfl) ?_
        refine xe_seg ok 1 (G := (fun K => K (49, xm_i49, xm_I49, 0, 0, 22, [(0, .ref 59)], [], xw_R X t_thrown t_size q693.2.1 q693.2.2.1 q693.2.2.2.1 s_57_24 t_text a_59 q693.2.2.2.2.2.2.2.2.2 q693.2.2.2.2.1 q693.2.2.2.2.2.2.1 q693.2.2.2.2.2.2.2.1 q693.2.2.2.2.2.2.2.2.1 q693.2.2.2.2.2.1 a_66 a_67 a_68 a_69 a_70 a_71 a_72 a_73 a_74 a_75 l_76))) (fun K => rfl) ?_
        refine xe_k ?_
        refine xe_sub [true] (lv' := [(0, .ref 59)]) rfl ?_
        have hz := hk22 q693.2.1 q693.2.2.1 q693.2.2.2.1 q693.2.2.2.2.1 q693.2.2.2.2.2.1 q693.2.2.2.2.2.2.1 q693.2.2.2.2.2.2.2.1 q693.2.2.2.2.2.2.2.2.1 q693.2.2.2.2.2.2.2.2.2 t_size t_thrown _ h
        exact hz
    · refine xe_neg hc601 (xe_k ?_)
      refine xe_sub [true] (lv' := [(0, .ref 59)]) rfl ?_
      have hz := xh_rf_schema_57_44 (l := l) (g := g) ok a_59 a_66 a_67 a_68 a_69 a_70 a_71 a_72 a_73 a_74 a_75 l_76 s_57_24 X t_text n t_at t_fault t_from t_kindLetters t_kindMay t_kindNames t_kindParts t_kindSorts t_kinds t_size t_thrown _ h
      exact hz
set_option maxHeartbeats 400000 in
theorem xh_rf_schema_57 {l : Launch} {g : xr_G} (ok : xr_OK xm_P) (a_59 a_66 a_67 a_68 a_69 a_70 a_71 a_72 a_73 a_74 a_75 : Nat → Int32) (l_76 : Nat → Int64) (s_57_24 : Int32) (X : Nat → xr_C) (t_text : (Nat → Int32)) (n : Nat) : ∀ (t_at : Int32) (t_fault : Int32) (t_from : Int32) (t_kindLetters : (Nat → Int32)) (t_kindMay : (Nat → Int32)) (t_kindNames : (Nat → Int32)) (t_kindParts : (Nat → Int32)) (t_kindSorts : (Nat → Int32)) (t_kinds : (Nat → Int32)) (t_size : Int32) (t_thrown : Int32) (r : (Int32 × Int32 × Int32 × Int32 × (Nat → Int32) × (Nat → Int32) × (Nat → Int32) × (Nat → Int32) × (Nat → Int32) × (Nat → Int32) × Int32 × Int32)), xf_rf_schema t_text n t_at t_fault t_from t_kindLetters t_kindMay t_kindNames t_kindParts t_kindSorts t_kinds t_size t_thrown = some r → xV xm_P l g (49, xm_i49, xm_I49, 0, 0, 0, [(0, .ref 59)], [], xw_R X t_thrown t_size t_at t_fault t_from s_57_24 t_text a_59 t_kinds t_kindLetters t_kindNames t_kindParts t_kindSorts t_kindMay a_66 a_67 a_68 a_69 a_70 a_71 a_72 a_73 a_74 a_75 l_76) (.inl (some (.int r.1)), xw_R X r.2.2.2.2.2.2.2.2.2.2.2 r.2.2.2.2.2.2.2.2.2.2.1 r.2.1 r.2.2.1 r.2.2.2.1 s_57_24 t_text a_59 r.2.2.2.2.2.2.2.2.2.1 r.2.2.2.2.1 r.2.2.2.2.2.2.1 r.2.2.2.2.2.2.2.1 r.2.2.2.2.2.2.2.2.1 r.2.2.2.2.2.1 a_66 a_67 a_68 a_69 a_70 a_71 a_72 a_73 a_74 a_75 l_76) := by
  intro t_at t_fault t_from t_kindLetters t_kindMay t_kindNames t_kindParts t_kindSorts t_kinds t_size t_thrown r h
  unfold xf_rf_schema at h
  refine xe_seg ok 14 (G := (fun K => if xr_in ((1 : Int32)) 2 = true then K (49, xm_i49, xm_I49, 0, 0, 22, [(0, .ref 59)], [], xw_R X ((0 : Int32)) t_size ((0 : Int32)) ((-1 : Int32)) t_from s_57_24 t_text a_59 (upd t_kinds ((1 : Int32)).toNatClampNeg (((0 : Int32)))) t_kindLetters t_kindNames t_kindParts t_kindSorts t_kindMay a_66 a_67 a_68 a_69 a_70 a_71 a_72 a_73 a_74 a_75 l_76) else none)) (fun K => rfl) ?_
  refine xe_pos (by decide) (xe_k ?_)
  refine xe_sub [true] (lv' := [(0, .ref 59)]) rfl ?_
  have hz := xh_rf_schema_57_22 (l := l) (g := g) ok a_59 a_66 a_67 a_68 a_69 a_70 a_71 a_72 a_73 a_74 a_75 l_76 s_57_24 X t_text n n ((0 : Int32)) ((-1 : Int32)) t_from t_kindLetters t_kindMay t_kindNames t_kindParts t_kindSorts (upd t_kinds ((1 : Int32)).toNatClampNeg (((0 : Int32)))) t_size ((0 : Int32)) _ h
  exact hz
set_option maxHeartbeats 400000 in
theorem xh_rf_find_57_5 {l : Launch} {g : xr_G} (ok : xr_OK xm_P) (a_58 a_59 a_60 a_61 a_62 a_63 a_64 a_65 a_68 a_69 a_70 a_71 a_72 a_73 a_74 a_75 : Nat → Int32) (l_76 : Nat → Int64) (s_57_0 s_57_1 s_57_18 s_57_19 s_57_20 s_57_24 : Int32) (X : Nat → xr_C) (t_lines : (Nat → Int32)) (t_numbers : (Nat → Int32)) (n : Nat) : ∀ (N : Nat) (v1 : Int32) (v2 : Int32) (v3 : Int32) (r : (Int32)), xf_rf_find_5 t_lines t_numbers n N v1 v2 v3 = some r → xV xm_P l g (50, xm_i50, xm_I50, 0, 0, 5, [(0, .ref 59), (1, .int v1), (2, .int v2), (3, .int v3)], [], xw_R X s_57_0 s_57_1 s_57_18 s_57_19 s_57_20 s_57_24 a_58 a_59 a_60 a_61 a_62 a_63 a_64 a_65 t_lines t_numbers a_68 a_69 a_70 a_71 a_72 a_73 a_74 a_75 l_76) (.inl (some (.int r)), xw_R X s_57_0 s_57_1 s_57_18 s_57_19 s_57_20 s_57_24 a_58 a_59 a_60 a_61 a_62 a_63 a_64 a_65 t_lines t_numbers a_68 a_69 a_70 a_71 a_72 a_73 a_74 a_75 l_76) := by
  intro N
  induction N with
  | zero => intro v1 v2 v3 r h; cases h
  | succ N hk5 =>
    intro v1 v2 v3 r h
    refine xe_seg ok 8 (G := (fun K => if xr_in v1 3 = true then K (50, xm_i50, xm_I50, 0, 0, 16, [(0, .ref 59), (1, .int v1), (2, .int v2), (3, .int v3)], [.int (t_lines v1.toNatClampNeg), .int (((40 : Int32)) * v1), .int v3], xw_R X s_57_0 s_57_1 s_57_18 s_57_19 s_57_20 s_57_24 a_58 a_59 a_60 a_61 a_62 a_63 a_64 a_65 t_lines t_numbers a_68 a_69 a_70 a_71 a_72 a_73 a_74 a_75 l_76) else none)) (fun K => rfl) ?_
    obtain ⟨hg705, h⟩ := xn_if h
    refine xe_pos hg705 (xe_k ?_)
    refine xe_seg ok 2 (G := (fun K => if v3 < ((((40 : Int32)) * v1) + (t_lines v1.toNatClampNeg)) then K (50, xm_i50, xm_I50, 0, 0, 20, [(0, .ref 59), (1, .int v1), (2, .int v2), (3, .int v3)], [], xw_R X s_57_0 s_57_1 s_57_18 s_57_19 s_57_20 s_57_24 a_58 a_59 a_60 a_61 a_62 a_63 a_64 a_65 t_lines t_numbers a_68 a_69 a_70 a_71 a_72 a_73 a_74 a_75 l_76) else K (50, xm_i50, xm_I50, 0, 0, 38, [(0, .ref 59), (1, .int v1), (2, .int v2), (3, .int v3)], [], xw_R X s_57_0 s_57_1 s_57_18 s_57_19 s_57_20 s_57_24 a_58 a_59 a_60 a_61 a_62 a_63 a_64 a_65 t_lines t_numbers a_68 a_69 a_70 a_71 a_72 a_73 a_74 a_75 l_76))) (fun K => rfl) ?_
    rcases xb_if h with ⟨hc706, h⟩ | ⟨hc706, h⟩
    · refine xe_pos hc706 (xe_k ?_)
      refine xe_seg ok 4 (G := (fun K => if xr_in v3 120 = true then K (50, xm_i50, xm_I50, 0, 0, 26, [(0, .ref 59), (1, .int v1), (2, .int v2), (3, .int v3)], [.int (t_numbers v3.toNatClampNeg)], xw_R X s_57_0 s_57_1 s_57_18 s_57_19 s_57_20 s_57_24 a_58 a_59 a_60 a_61 a_62 a_63 a_64 a_65 t_lines t_numbers a_68 a_69 a_70 a_71 a_72 a_73 a_74 a_75 l_76) else none)) (fun K => rfl) ?_
      obtain ⟨hg707, h⟩ := xn_if h
      refine xe_pos hg707 (xe_k ?_)
      refine xe_seg ok 2 (G := (fun K => if (t_numbers v3.toNatClampNeg) = v2 then K (50, xm_i50, xm_I50, 0, 0, 30, [(0, .ref 59), (1, .int v1), (2, .int v2), (3, .int v3)], [], xw_R X s_57_0 s_57_1 s_57_18 s_57_19 s_57_20 s_57_24 a_58 a_59 a_60 a_61 a_62 a_63 a_64 a_65 t_lines t_numbers a_68 a_69 a_70 a_71 a_72 a_73 a_74 a_75 l_76) else K (50, xm_i50, xm_I50, 0, 0, 32, [(0, .ref 59), (1, .int v1), (2, .int v2), (3, .int v3)], [], xw_R X s_57_0 s_57_1 s_57_18 s_57_19 s_57_20 s_57_24 a_58 a_59 a_60 a_61 a_62 a_63 a_64 a_65 t_lines t_numbers a_68 a_69 a_70 a_71 a_72 a_73 a_74 a_75 l_76))) (fun K => rfl) ?_
      rcases xb_if h with ⟨hc708, h⟩ | ⟨hc708, h⟩
      · refine xe_pos hc708 (xe_k ?_)
        obtain rfl := Option.some.inj h
        refine xe_seg ok 2 (G := (fun _ => some (.inl (some (.int v3)), xw_R X s_57_0 s_57_1 s_57_18 s_57_19 s_57_20 s_57_24 a_58 a_59 a_60 a_61 a_62 a_63 a_64 a_65 t_lines t_numbers a_68 a_69 a_70 a_71 a_72 a_73 a_74 a_75 l_76))) (fun K => rfl) ?_
        exact xe_ret
      · refine xe_neg hc708 (xe_k ?_)
        refine xe_seg ok 2 (G := (fun K => K (50, xm_i50, xm_I50, 0, 0, 5, [(0, .ref 59), (1, .int v1), (2, .int v2), (3, .int (v3 + (1 : Int32)))], [], xw_R X s_57_0 s_57_1 s_57_18 s_57_19 s_57_20 s_57_24 a_58 a_59 a_60 a_61 a_62 a_63 a_64 a_65 t_lines t_numbers a_68 a_69 a_70 a_71 a_72 a_73 a_74 a_75 l_76))) (fun K => rfl) ?_
        refine xe_k ?_
        refine xe_sub [true, true, true, true] (lv' := [(0, .ref 59), (1, .int v1), (2, .int v2), (3, .int (v3 + (1 : Int32)))]) rfl ?_
        have hz := hk5 v1 v2 (v3 + (1 : Int32)) _ h
        exact hz
    · refine xe_neg hc706 (xe_k ?_)
      obtain rfl := Option.some.inj h
      refine xe_seg ok 2 (G := (fun _ => some (.inl (some (.int ((-1 : Int32)))), xw_R X s_57_0 s_57_1 s_57_18 s_57_19 s_57_20 s_57_24 a_58 a_59 a_60 a_61 a_62 a_63 a_64 a_65 t_lines t_numbers a_68 a_69 a_70 a_71 a_72 a_73 a_74 a_75 l_76))) (fun K => rfl) ?_
      exact xe_ret
set_option maxHeartbeats 400000 in
theorem xh_rf_find_57 {l : Launch} {g : xr_G} (ok : xr_OK xm_P) (a_58 a_59 a_60 a_61 a_62 a_63 a_64 a_65 a_68 a_69 a_70 a_71 a_72 a_73 a_74 a_75 : Nat → Int32) (l_76 : Nat → Int64) (s_57_0 s_57_1 s_57_18 s_57_19 s_57_20 s_57_24 : Int32) (X : Nat → xr_C) (t_lines : (Nat → Int32)) (t_numbers : (Nat → Int32)) (n : Nat) : ∀ (a1 : Int32) (a2 : Int32) (r : (Int32)), xf_rf_find t_lines t_numbers n a1 a2 = some r → xV xm_P l g (50, xm_i50, xm_I50, 0, 0, 0, [(0, .ref 59), (1, .int a1), (2, .int a2)], [], xw_R X s_57_0 s_57_1 s_57_18 s_57_19 s_57_20 s_57_24 a_58 a_59 a_60 a_61 a_62 a_63 a_64 a_65 t_lines t_numbers a_68 a_69 a_70 a_71 a_72 a_73 a_74 a_75 l_76) (.inl (some (.int r)), xw_R X s_57_0 s_57_1 s_57_18 s_57_19 s_57_20 s_57_24 a_58 a_59 a_60 a_61 a_62 a_63 a_64 a_65 t_lines t_numbers a_68 a_69 a_70 a_71 a_72 a_73 a_74 a_75 l_76) := by
  intro a1 a2 r h
  unfold xf_rf_find at h
  refine xe_seg ok 4 (G := (fun K => K (50, xm_i50, xm_I50, 0, 0, 5, [(0, .ref 59), (1, .int a1), (2, .int a2), (3, .int (((40 : Int32)) * a1))], [], xw_R X s_57_0 s_57_1 s_57_18 s_57_19 s_57_20 s_57_24 a_58 a_59 a_60 a_61 a_62 a_63 a_64 a_65 t_lines t_numbers a_68 a_69 a_70 a_71 a_72 a_73 a_74 a_75 l_76))) (fun K => rfl) ?_
  refine xe_k ?_
  refine xe_sub [true, true, true, true] (lv' := [(0, .ref 59), (1, .int a1), (2, .int a2), (3, .int (((40 : Int32)) * a1))]) rfl ?_
  have hz := xh_rf_find_57_5 (l := l) (g := g) ok a_58 a_59 a_60 a_61 a_62 a_63 a_64 a_65 a_68 a_69 a_70 a_71 a_72 a_73 a_74 a_75 l_76 s_57_0 s_57_1 s_57_18 s_57_19 s_57_20 s_57_24 X t_lines t_numbers n n a1 a2 (((40 : Int32)) * a1) _ h
  exact hz
set_option maxHeartbeats 400000 in
theorem xh_rf_isMissing_57_111 {l : Launch} {g : xr_G} (ok : xr_OK xm_P) (a_58 a_59 a_60 a_61 a_62 a_63 a_64 a_65 a_68 a_69 a_74 a_75 : Nat → Int32) (l_76 : Nat → Int64) (s_57_0 s_57_1 s_57_18 s_57_19 s_57_20 s_57_24 : Int32) (X : Nat → xr_C) (t_items : (Nat → Int32)) (t_lines : (Nat → Int32)) (t_numbers : (Nat → Int32)) (t_parts : (Nat → Int32)) (t_sorts : (Nat → Int32)) (t_values : (Nat → Int32)) {k7 : Int32 → Int32 → Int32 → Option (Int32)} (hk7 : ∀ (v1 : Int32) (v2 : Int32) (v3 : Int32) (r : (Int32)), k7 v1 v2 v3 = some r → xV xm_P l g (55, xm_i55, xm_I55, 0, 0, 7, [(0, .ref 59), (1, .int v1), (2, .int v2), (3, .int v3)], [], xw_R X s_57_0 s_57_1 s_57_18 s_57_19 s_57_20 s_57_24 a_58 a_59 a_60 a_61 a_62 a_63 a_64 a_65 t_lines t_numbers a_68 a_69 t_parts t_sorts t_values t_items a_74 a_75 l_76) (.inl (some (.int r)), xw_R X s_57_0 s_57_1 s_57_18 s_57_19 s_57_20 s_57_24 a_58 a_59 a_60 a_61 a_62 a_63 a_64 a_65 t_lines t_numbers a_68 a_69 t_parts t_sorts t_values t_items a_74 a_75 l_76)) {k60 : Int32 → Int32 → Int32 → Int32 → Option (Int32)} (hk60 : ∀ (v1 : Int32) (v2 : Int32) (v3 : Int32) (v4 : Int32) (r : (Int32)), k60 v1 v2 v3 v4 = some r → xV xm_P l g (55, xm_i55, xm_I55, 0, 0, 60, [(0, .ref 59), (1, .int v1), (2, .int v2), (3, .int v3), (4, .int v4)], [], xw_R X s_57_0 s_57_1 s_57_18 s_57_19 s_57_20 s_57_24 a_58 a_59 a_60 a_61 a_62 a_63 a_64 a_65 t_lines t_numbers a_68 a_69 t_parts t_sorts t_values t_items a_74 a_75 l_76) (.inl (some (.int r)), xw_R X s_57_0 s_57_1 s_57_18 s_57_19 s_57_20 s_57_24 a_58 a_59 a_60 a_61 a_62 a_63 a_64 a_65 t_lines t_numbers a_68 a_69 t_parts t_sorts t_values t_items a_74 a_75 l_76)) (n : Nat) : ∀ (v1 : Int32) (v3 : Int32) (v4 : Int32) (s0 : Int32) (r : (Int32)), xf_rf_isMissing_111 t_items t_lines t_numbers t_parts t_sorts t_values k7 k60 n v1 v3 v4 s0 = some r → xV xm_P l g (55, xm_i55, xm_I55, 0, 0, 111, [(0, .ref 59), (1, .int v1), (3, .int v3), (4, .int v4)], [.int s0], xw_R X s_57_0 s_57_1 s_57_18 s_57_19 s_57_20 s_57_24 a_58 a_59 a_60 a_61 a_62 a_63 a_64 a_65 t_lines t_numbers a_68 a_69 t_parts t_sorts t_values t_items a_74 a_75 l_76) (.inl (some (.int r)), xw_R X s_57_0 s_57_1 s_57_18 s_57_19 s_57_20 s_57_24 a_58 a_59 a_60 a_61 a_62 a_63 a_64 a_65 t_lines t_numbers a_68 a_69 t_parts t_sorts t_values t_items a_74 a_75 l_76) := by
  intro v1 v3 v4 s0 r h
  unfold xf_rf_isMissing_111 at h
  refine xe_seg ok 3 (G := (fun K => K (55, xm_i55, xm_I55, 0, 0, 60, [(0, .ref 59), (1, .int v1), (2, .int s0), (3, .int v3), (4, .int (v4 + (1 : Int32)))], [], xw_R X s_57_0 s_57_1 s_57_18 s_57_19 s_57_20 s_57_24 a_58 a_59 a_60 a_61 a_62 a_63 a_64 a_65 t_lines t_numbers a_68 a_69 t_parts t_sorts t_values t_items a_74 a_75 l_76))) (fun K => rfl) ?_
  refine xe_k ?_
  refine xe_sub [true, true, true, true, true] (lv' := [(0, .ref 59), (1, .int v1), (2, .int s0), (3, .int v3), (4, .int (v4 + (1 : Int32)))]) rfl ?_
  have hz := hk60 v1 s0 v3 (v4 + (1 : Int32)) _ h
  exact hz
set_option maxHeartbeats 400000 in
theorem xh_rf_isMissing_57_106 {l : Launch} {g : xr_G} (ok : xr_OK xm_P) (a_58 a_59 a_60 a_61 a_62 a_63 a_64 a_65 a_68 a_69 a_74 a_75 : Nat → Int32) (l_76 : Nat → Int64) (s_57_0 s_57_1 s_57_18 s_57_19 s_57_20 s_57_24 : Int32) (X : Nat → xr_C) (t_items : (Nat → Int32)) (t_lines : (Nat → Int32)) (t_numbers : (Nat → Int32)) (t_parts : (Nat → Int32)) (t_sorts : (Nat → Int32)) (t_values : (Nat → Int32)) {k7 : Int32 → Int32 → Int32 → Option (Int32)} (hk7 : ∀ (v1 : Int32) (v2 : Int32) (v3 : Int32) (r : (Int32)), k7 v1 v2 v3 = some r → xV xm_P l g (55, xm_i55, xm_I55, 0, 0, 7, [(0, .ref 59), (1, .int v1), (2, .int v2), (3, .int v3)], [], xw_R X s_57_0 s_57_1 s_57_18 s_57_19 s_57_20 s_57_24 a_58 a_59 a_60 a_61 a_62 a_63 a_64 a_65 t_lines t_numbers a_68 a_69 t_parts t_sorts t_values t_items a_74 a_75 l_76) (.inl (some (.int r)), xw_R X s_57_0 s_57_1 s_57_18 s_57_19 s_57_20 s_57_24 a_58 a_59 a_60 a_61 a_62 a_63 a_64 a_65 t_lines t_numbers a_68 a_69 t_parts t_sorts t_values t_items a_74 a_75 l_76)) {k60 : Int32 → Int32 → Int32 → Int32 → Option (Int32)} (hk60 : ∀ (v1 : Int32) (v2 : Int32) (v3 : Int32) (v4 : Int32) (r : (Int32)), k60 v1 v2 v3 v4 = some r → xV xm_P l g (55, xm_i55, xm_I55, 0, 0, 60, [(0, .ref 59), (1, .int v1), (2, .int v2), (3, .int v3), (4, .int v4)], [], xw_R X s_57_0 s_57_1 s_57_18 s_57_19 s_57_20 s_57_24 a_58 a_59 a_60 a_61 a_62 a_63 a_64 a_65 t_lines t_numbers a_68 a_69 t_parts t_sorts t_values t_items a_74 a_75 l_76) (.inl (some (.int r)), xw_R X s_57_0 s_57_1 s_57_18 s_57_19 s_57_20 s_57_24 a_58 a_59 a_60 a_61 a_62 a_63 a_64 a_65 t_lines t_numbers a_68 a_69 t_parts t_sorts t_values t_items a_74 a_75 l_76)) (n : Nat) : ∀ (v1 : Int32) (v3 : Int32) (v4 : Int32) (r : (Int32)), xf_rf_isMissing_106 t_items t_lines t_numbers t_parts t_sorts t_values k7 k60 n v1 v3 v4 = some r → xV xm_P l g (55, xm_i55, xm_I55, 0, 0, 106, [(0, .ref 59), (1, .int v1), (3, .int v3), (4, .int v4)], [], xw_R X s_57_0 s_57_1 s_57_18 s_57_19 s_57_20 s_57_24 a_58 a_59 a_60 a_61 a_62 a_63 a_64 a_65 t_lines t_numbers a_68 a_69 t_parts t_sorts t_values t_items a_74 a_75 l_76) (.inl (some (.int r)), xw_R X s_57_0 s_57_1 s_57_18 s_57_19 s_57_20 s_57_24 a_58 a_59 a_60 a_61 a_62 a_63 a_64 a_65 t_lines t_numbers a_68 a_69 t_parts t_sorts t_values t_items a_74 a_75 l_76) := by
  intro v1 v3 v4 r h
  unfold xf_rf_isMissing_106 at h
  refine xe_seg ok 2 (G := (fun K => K (55, xm_i55, xm_I55, 0, 0, 111, [(0, .ref 59), (1, .int v1), (3, .int v3), (4, .int v4)], [.int ((1 : Int32))], xw_R X s_57_0 s_57_1 s_57_18 s_57_19 s_57_20 s_57_24 a_58 a_59 a_60 a_61 a_62 a_63 a_64 a_65 t_lines t_numbers a_68 a_69 t_parts t_sorts t_values t_items a_74 a_75 l_76))) (fun K => rfl) ?_
  refine xe_k ?_
  refine xe_sub [true, true, true, true] (lv' := [(0, .ref 59), (1, .int v1), (3, .int v3), (4, .int v4)]) rfl ?_
  have hz := xh_rf_isMissing_57_111 (l := l) (g := g) ok a_58 a_59 a_60 a_61 a_62 a_63 a_64 a_65 a_68 a_69 a_74 a_75 l_76 s_57_0 s_57_1 s_57_18 s_57_19 s_57_20 s_57_24 X t_items t_lines t_numbers t_parts t_sorts t_values hk7 hk60 n v1 v3 v4 ((1 : Int32)) _ h
  exact hz
set_option maxHeartbeats 400000 in
theorem xh_rf_isMissing_57_118 {l : Launch} {g : xr_G} (ok : xr_OK xm_P) (a_58 a_59 a_60 a_61 a_62 a_63 a_64 a_65 a_68 a_69 a_74 a_75 : Nat → Int32) (l_76 : Nat → Int64) (s_57_0 s_57_1 s_57_18 s_57_19 s_57_20 s_57_24 : Int32) (X : Nat → xr_C) (t_items : (Nat → Int32)) (t_lines : (Nat → Int32)) (t_numbers : (Nat → Int32)) (t_parts : (Nat → Int32)) (t_sorts : (Nat → Int32)) (t_values : (Nat → Int32)) {k7 : Int32 → Int32 → Int32 → Option (Int32)} (hk7 : ∀ (v1 : Int32) (v2 : Int32) (v3 : Int32) (r : (Int32)), k7 v1 v2 v3 = some r → xV xm_P l g (55, xm_i55, xm_I55, 0, 0, 7, [(0, .ref 59), (1, .int v1), (2, .int v2), (3, .int v3)], [], xw_R X s_57_0 s_57_1 s_57_18 s_57_19 s_57_20 s_57_24 a_58 a_59 a_60 a_61 a_62 a_63 a_64 a_65 t_lines t_numbers a_68 a_69 t_parts t_sorts t_values t_items a_74 a_75 l_76) (.inl (some (.int r)), xw_R X s_57_0 s_57_1 s_57_18 s_57_19 s_57_20 s_57_24 a_58 a_59 a_60 a_61 a_62 a_63 a_64 a_65 t_lines t_numbers a_68 a_69 t_parts t_sorts t_values t_items a_74 a_75 l_76)) (n : Nat) : ∀ (v1 : Int32) (v2 : Int32) (v3 : Int32) (r : (Int32)), xf_rf_isMissing_118 t_items t_lines t_numbers t_parts t_sorts t_values k7 n v1 v2 v3 = some r → xV xm_P l g (55, xm_i55, xm_I55, 0, 0, 118, [(0, .ref 59), (1, .int v1), (2, .int v2), (3, .int v3)], [], xw_R X s_57_0 s_57_1 s_57_18 s_57_19 s_57_20 s_57_24 a_58 a_59 a_60 a_61 a_62 a_63 a_64 a_65 t_lines t_numbers a_68 a_69 t_parts t_sorts t_values t_items a_74 a_75 l_76) (.inl (some (.int r)), xw_R X s_57_0 s_57_1 s_57_18 s_57_19 s_57_20 s_57_24 a_58 a_59 a_60 a_61 a_62 a_63 a_64 a_65 t_lines t_numbers a_68 a_69 t_parts t_sorts t_values t_items a_74 a_75 l_76) := by
  intro v1 v2 v3 r h
  unfold xf_rf_isMissing_118 at h
  refine xe_seg ok 2 (G := (fun K => K (55, xm_i55, xm_I55, 0, 0, 7, [(0, .ref 59), (1, .int v1), (2, .int v2), (3, .int (v3 + (1 : Int32)))], [], xw_R X s_57_0 s_57_1 s_57_18 s_57_19 s_57_20 s_57_24 a_58 a_59 a_60 a_61 a_62 a_63 a_64 a_65 t_lines t_numbers a_68 a_69 t_parts t_sorts t_values t_items a_74 a_75 l_76))) (fun K => rfl) ?_
  refine xe_k ?_
  refine xe_sub [true, true, true, true] (lv' := [(0, .ref 59), (1, .int v1), (2, .int v2), (3, .int (v3 + (1 : Int32)))]) rfl ?_
  have hz := hk7 v1 v2 (v3 + (1 : Int32)) _ h
  exact hz
set_option maxHeartbeats 400000 in
theorem xh_rf_isMissing_57_60 {l : Launch} {g : xr_G} (ok : xr_OK xm_P) (a_58 a_59 a_60 a_61 a_62 a_63 a_64 a_65 a_68 a_69 a_74 a_75 : Nat → Int32) (l_76 : Nat → Int64) (s_57_0 s_57_1 s_57_18 s_57_19 s_57_20 s_57_24 : Int32) (X : Nat → xr_C) (t_items : (Nat → Int32)) (t_lines : (Nat → Int32)) (t_numbers : (Nat → Int32)) (t_parts : (Nat → Int32)) (t_sorts : (Nat → Int32)) (t_values : (Nat → Int32)) {k7 : Int32 → Int32 → Int32 → Option (Int32)} (hk7 : ∀ (v1 : Int32) (v2 : Int32) (v3 : Int32) (r : (Int32)), k7 v1 v2 v3 = some r → xV xm_P l g (55, xm_i55, xm_I55, 0, 0, 7, [(0, .ref 59), (1, .int v1), (2, .int v2), (3, .int v3)], [], xw_R X s_57_0 s_57_1 s_57_18 s_57_19 s_57_20 s_57_24 a_58 a_59 a_60 a_61 a_62 a_63 a_64 a_65 t_lines t_numbers a_68 a_69 t_parts t_sorts t_values t_items a_74 a_75 l_76) (.inl (some (.int r)), xw_R X s_57_0 s_57_1 s_57_18 s_57_19 s_57_20 s_57_24 a_58 a_59 a_60 a_61 a_62 a_63 a_64 a_65 t_lines t_numbers a_68 a_69 t_parts t_sorts t_values t_items a_74 a_75 l_76)) (n : Nat) : ∀ (N : Nat) (v1 : Int32) (v2 : Int32) (v3 : Int32) (v4 : Int32) (r : (Int32)), xf_rf_isMissing_60 t_items t_lines t_numbers t_parts t_sorts t_values k7 n N v1 v2 v3 v4 = some r → xV xm_P l g (55, xm_i55, xm_I55, 0, 0, 60, [(0, .ref 59), (1, .int v1), (2, .int v2), (3, .int v3), (4, .int v4)], [], xw_R X s_57_0 s_57_1 s_57_18 s_57_19 s_57_20 s_57_24 a_58 a_59 a_60 a_61 a_62 a_63 a_64 a_65 t_lines t_numbers a_68 a_69 t_parts t_sorts t_values t_items a_74 a_75 l_76) (.inl (some (.int r)), xw_R X s_57_0 s_57_1 s_57_18 s_57_19 s_57_20 s_57_24 a_58 a_59 a_60 a_61 a_62 a_63 a_64 a_65 t_lines t_numbers a_68 a_69 t_parts t_sorts t_values t_items a_74 a_75 l_76) := by
  intro N
  induction N with
  | zero => intro v1 v2 v3 v4 r h; cases h
  | succ N hk60 =>
    intro v1 v2 v3 v4 r h
    refine xe_seg ok 5 (G := (fun K => if xr_in v3 960 = true then K (55, xm_i55, xm_I55, 0, 0, 68, [(0, .ref 59), (1, .int v1), (2, .int v2), (3, .int v3), (4, .int v4)], [.int (t_values v3.toNatClampNeg), .int v4], xw_R X s_57_0 s_57_1 s_57_18 s_57_19 s_57_20 s_57_24 a_58 a_59 a_60 a_61 a_62 a_63 a_64 a_65 t_lines t_numbers a_68 a_69 t_parts t_sorts t_values t_items a_74 a_75 l_76) else none)) (fun K => rfl) ?_
    obtain ⟨hg711, h⟩ := xn_if h
    refine xe_pos hg711 (xe_k ?_)
    refine xe_seg ok 1 (G := (fun K => if v4 < (t_values v3.toNatClampNeg) then K (55, xm_i55, xm_I55, 0, 0, 71, [(0, .ref 59), (1, .int v1), (2, .int v2), (3, .int v3), (4, .int v4)], [], xw_R X s_57_0 s_57_1 s_57_18 s_57_19 s_57_20 s_57_24 a_58 a_59 a_60 a_61 a_62 a_63 a_64 a_65 t_lines t_numbers a_68 a_69 t_parts t_sorts t_values t_items a_74 a_75 l_76) else K (55, xm_i55, xm_I55, 0, 0, 118, [(0, .ref 59), (1, .int v1), (2, .int v2), (3, .int v3), (4, .int v4)], [], xw_R X s_57_0 s_57_1 s_57_18 s_57_19 s_57_20 s_57_24 a_58 a_59 a_60 a_61 a_62 a_63 a_64 a_65 t_lines t_numbers a_68 a_69 t_parts t_sorts t_values t_items a_74 a_75 l_76))) (fun K => rfl) ?_
    rcases xb_if h with ⟨hc712, h⟩ | ⟨hc712, h⟩
    · refine xe_pos hc712 (xe_k ?_)
      refine xe_seg ok 4 (G := (fun K => if xr_in v3 960 = true then K (55, xm_i55, xm_I55, 0, 0, 77, [(0, .ref 59), (1, .int v1), (2, .int v2), (3, .int v3), (4, .int v4)], [.int (t_sorts v3.toNatClampNeg)], xw_R X s_57_0 s_57_1 s_57_18 s_57_19 s_57_20 s_57_24 a_58 a_59 a_60 a_61 a_62 a_63 a_64 a_65 t_lines t_numbers a_68 a_69 t_parts t_sorts t_values t_items a_74 a_75 l_76) else none)) (fun K => rfl) ?_
      obtain ⟨hg713, h⟩ := xn_if h
      refine xe_pos hg713 (xe_k ?_)
      refine xe_seg ok 2 (G := (fun K => if (t_sorts v3.toNatClampNeg) = ((4 : Int32)) then K (55, xm_i55, xm_I55, 0, 0, 81, [(0, .ref 59), (1, .int v1), (2, .int v2), (3, .int v3), (4, .int v4)], [], xw_R X s_57_0 s_57_1 s_57_18 s_57_19 s_57_20 s_57_24 a_58 a_59 a_60 a_61 a_62 a_63 a_64 a_65 t_lines t_numbers a_68 a_69 t_parts t_sorts t_values t_items a_74 a_75 l_76) else K (55, xm_i55, xm_I55, 0, 0, 118, [(0, .ref 59), (1, .int v1), (2, .int v2), (3, .int v3), (4, .int v4)], [], xw_R X s_57_0 s_57_1 s_57_18 s_57_19 s_57_20 s_57_24 a_58 a_59 a_60 a_61 a_62 a_63 a_64 a_65 t_lines t_numbers a_68 a_69 t_parts t_sorts t_values t_items a_74 a_75 l_76))) (fun K => rfl) ?_
      rcases xb_if h with ⟨hc714, h⟩ | ⟨hc714, h⟩
      · refine xe_pos hc714 (xe_k ?_)
        refine xe_seg ok 2 (G := (fun K => if v2 = (0 : Int32) then K (55, xm_i55, xm_I55, 0, 0, 85, [(0, .ref 59), (1, .int v1), (2, .int v2), (3, .int v3), (4, .int v4)], [], xw_R X s_57_0 s_57_1 s_57_18 s_57_19 s_57_20 s_57_24 a_58 a_59 a_60 a_61 a_62 a_63 a_64 a_65 t_lines t_numbers a_68 a_69 t_parts t_sorts t_values t_items a_74 a_75 l_76) else K (55, xm_i55, xm_I55, 0, 0, 106, [(0, .ref 59), (1, .int v1), (2, .int v2), (3, .int v3), (4, .int v4)], [], xw_R X s_57_0 s_57_1 s_57_18 s_57_19 s_57_20 s_57_24 a_58 a_59 a_60 a_61 a_62 a_63 a_64 a_65 t_lines t_numbers a_68 a_69 t_parts t_sorts t_values t_items a_74 a_75 l_76))) (fun K => rfl) ?_
        rcases xb_if h with ⟨hc715, h⟩ | ⟨hc715, h⟩
        · refine xe_pos hc715 (xe_k ?_)
          refine xe_seg ok 10 (G := (fun K => if xr_in ((((20 : Int32)) * v3) + v4) 19200 = true then K (55, xm_i55, xm_I55, 0, 0, 99, [(0, .ref 59), (1, .int v1), (2, .int v2), (3, .int v3), (4, .int v4)], [.int (t_items ((((20 : Int32)) * v3) + v4).toNatClampNeg), .int ((1 : Int32)), .ref 59], xw_R X s_57_0 s_57_1 s_57_18 s_57_19 s_57_20 s_57_24 a_58 a_59 a_60 a_61 a_62 a_63 a_64 a_65 t_lines t_numbers a_68 a_69 t_parts t_sorts t_values t_items a_74 a_75 l_76) else none)) (fun K => rfl) ?_
          obtain ⟨hg716, h⟩ := xn_if h
          refine xe_pos hg716 (xe_k ?_)
          refine xe_seg ok 1 (G := (fun K => xr_back K 55 xm_i55 xm_I55 0 0 99 [(0, .ref 59), (1, .int v1), (2, .int v2), (3, .int v3), (4, .int v4)] [] 78 true (K (50, xm_i50, xm_I50, 0, 0, 0, [(0, .ref 59), (1, .int ((1 : Int32))), (2, .int (t_items ((((20 : Int32)) * v3) + v4).toNatClampNeg))], [], xw_R X s_57_0 s_57_1 s_57_18 s_57_19 s_57_20 s_57_24 a_58 a_59 a_60 a_61 a_62 a_63 a_64 a_65 t_lines t_numbers a_68 a_69 t_parts t_sorts t_values t_items a_74 a_75 l_76)))) (fun K => rfl) ?_
          obtain ⟨q717, hq717, h⟩ := Option.bind_eq_some_iff.mp h
          have heq717 := xh_rf_find_57 (l := l) (g := g) ok a_58 a_59 a_60 a_61 a_62 a_63 a_64 a_65 a_68 a_69 t_parts t_sorts t_values t_items a_74 a_75 l_76 s_57_0 s_57_1 s_57_18 s_57_19 s_57_20 s_57_24 X t_lines t_numbers n ((1 : Int32)) (t_items ((((20 : Int32)) * v3) + v4).toNatClampNeg) _ hq717
          refine xe_call1 (ws' := xw_R X s_57_0 s_57_1 s_57_18 s_57_19 s_57_20 s_57_24 a_58 a_59 a_60 a_61 a_62 a_63 a_64 a_65 t_lines t_numbers a_68 a_69 t_parts t_sorts t_values t_items a_74 a_75 l_76) (by decide) heq717 (Or.inl rfl) ?_
          refine xe_seg ok 2 (G := (fun K => if q717 = ((-1 : Int32)) then K (55, xm_i55, xm_I55, 0, 0, 106, [(0, .ref 59), (1, .int v1), (2, .int v2), (3, .int v3), (4, .int v4)], [], xw_R X s_57_0 s_57_1 s_57_18 s_57_19 s_57_20 s_57_24 a_58 a_59 a_60 a_61 a_62 a_63 a_64 a_65 t_lines t_numbers a_68 a_69 t_parts t_sorts t_values t_items a_74 a_75 l_76) else K (55, xm_i55, xm_I55, 0, 0, 110, [(0, .ref 59), (1, .int v1), (2, .int v2), (3, .int v3), (4, .int v4)], [], xw_R X s_57_0 s_57_1 s_57_18 s_57_19 s_57_20 s_57_24 a_58 a_59 a_60 a_61 a_62 a_63 a_64 a_65 t_lines t_numbers a_68 a_69 t_parts t_sorts t_values t_items a_74 a_75 l_76))) (fun K => rfl) ?_
          rcases xb_if h with ⟨hc718, h⟩ | ⟨hc718, h⟩
          · refine xe_pos hc718 (xe_k ?_)
            refine xe_sub [true, true, false, true, true] (lv' := [(0, .ref 59), (1, .int v1), (3, .int v3), (4, .int v4)]) rfl ?_
            have hz := xh_rf_isMissing_57_106 (l := l) (g := g) ok a_58 a_59 a_60 a_61 a_62 a_63 a_64 a_65 a_68 a_69 a_74 a_75 l_76 s_57_0 s_57_1 s_57_18 s_57_19 s_57_20 s_57_24 X t_items t_lines t_numbers t_parts t_sorts t_values hk7 hk60 n v1 v3 v4 _ h
            exact hz
          · refine xe_neg hc718 (xe_k ?_)
            refine xe_seg ok 1 (G := (fun K => K (55, xm_i55, xm_I55, 0, 0, 111, [(0, .ref 59), (1, .int v1), (2, .int v2), (3, .int v3), (4, .int v4)], [.int ((0 : Int32))], xw_R X s_57_0 s_57_1 s_57_18 s_57_19 s_57_20 s_57_24 a_58 a_59 a_60 a_61 a_62 a_63 a_64 a_65 t_lines t_numbers a_68 a_69 t_parts t_sorts t_values t_items a_74 a_75 l_76))) (fun K => rfl) ?_
            refine xe_k ?_
            refine xe_sub [true, true, false, true, true] (lv' := [(0, .ref 59), (1, .int v1), (3, .int v3), (4, .int v4)]) rfl ?_
            have hz := xh_rf_isMissing_57_111 (l := l) (g := g) ok a_58 a_59 a_60 a_61 a_62 a_63 a_64 a_65 a_68 a_69 a_74 a_75 l_76 s_57_0 s_57_1 s_57_18 s_57_19 s_57_20 s_57_24 X t_items t_lines t_numbers t_parts t_sorts t_values hk7 hk60 n v1 v3 v4 ((0 : Int32)) _ h
            exact hz
        · refine xe_neg hc715 (xe_k ?_)
          refine xe_sub [true, true, false, true, true] (lv' := [(0, .ref 59), (1, .int v1), (3, .int v3), (4, .int v4)]) rfl ?_
          have hz := xh_rf_isMissing_57_106 (l := l) (g := g) ok a_58 a_59 a_60 a_61 a_62 a_63 a_64 a_65 a_68 a_69 a_74 a_75 l_76 s_57_0 s_57_1 s_57_18 s_57_19 s_57_20 s_57_24 X t_items t_lines t_numbers t_parts t_sorts t_values hk7 hk60 n v1 v3 v4 _ h
          exact hz
      · refine xe_neg hc714 (xe_k ?_)
        refine xe_sub [true, true, true, true, false] (lv' := [(0, .ref 59), (1, .int v1), (2, .int v2), (3, .int v3)]) rfl ?_
        have hz := xh_rf_isMissing_57_118 (l := l) (g := g) ok a_58 a_59 a_60 a_61 a_62 a_63 a_64 a_65 a_68 a_69 a_74 a_75 l_76 s_57_0 s_57_1 s_57_18 s_57_19 s_57_20 s_57_24 X t_items t_lines t_numbers t_parts t_sorts t_values hk7 n v1 v2 v3 _ h
        exact hz
    · refine xe_neg hc712 (xe_k ?_)
      refine xe_sub [true, true, true, true, false] (lv' := [(0, .ref 59), (1, .int v1), (2, .int v2), (3, .int v3)]) rfl ?_
      have hz := xh_rf_isMissing_57_118 (l := l) (g := g) ok a_58 a_59 a_60 a_61 a_62 a_63 a_64 a_65 a_68 a_69 a_74 a_75 l_76 s_57_0 s_57_1 s_57_18 s_57_19 s_57_20 s_57_24 X t_items t_lines t_numbers t_parts t_sorts t_values hk7 n v1 v2 v3 _ h
      exact hz
set_option maxHeartbeats 400000 in
theorem xh_rf_isMissing_57_57 {l : Launch} {g : xr_G} (ok : xr_OK xm_P) (a_58 a_59 a_60 a_61 a_62 a_63 a_64 a_65 a_68 a_69 a_74 a_75 : Nat → Int32) (l_76 : Nat → Int64) (s_57_0 s_57_1 s_57_18 s_57_19 s_57_20 s_57_24 : Int32) (X : Nat → xr_C) (t_items : (Nat → Int32)) (t_lines : (Nat → Int32)) (t_numbers : (Nat → Int32)) (t_parts : (Nat → Int32)) (t_sorts : (Nat → Int32)) (t_values : (Nat → Int32)) {k7 : Int32 → Int32 → Int32 → Option (Int32)} (hk7 : ∀ (v1 : Int32) (v2 : Int32) (v3 : Int32) (r : (Int32)), k7 v1 v2 v3 = some r → xV xm_P l g (55, xm_i55, xm_I55, 0, 0, 7, [(0, .ref 59), (1, .int v1), (2, .int v2), (3, .int v3)], [], xw_R X s_57_0 s_57_1 s_57_18 s_57_19 s_57_20 s_57_24 a_58 a_59 a_60 a_61 a_62 a_63 a_64 a_65 t_lines t_numbers a_68 a_69 t_parts t_sorts t_values t_items a_74 a_75 l_76) (.inl (some (.int r)), xw_R X s_57_0 s_57_1 s_57_18 s_57_19 s_57_20 s_57_24 a_58 a_59 a_60 a_61 a_62 a_63 a_64 a_65 t_lines t_numbers a_68 a_69 t_parts t_sorts t_values t_items a_74 a_75 l_76)) (n : Nat) : ∀ (v1 : Int32) (v2 : Int32) (v3 : Int32) (r : (Int32)), xf_rf_isMissing_57 t_items t_lines t_numbers t_parts t_sorts t_values k7 n v1 v2 v3 = some r → xV xm_P l g (55, xm_i55, xm_I55, 0, 0, 57, [(0, .ref 59), (1, .int v1), (2, .int v2), (3, .int v3)], [], xw_R X s_57_0 s_57_1 s_57_18 s_57_19 s_57_20 s_57_24 a_58 a_59 a_60 a_61 a_62 a_63 a_64 a_65 t_lines t_numbers a_68 a_69 t_parts t_sorts t_values t_items a_74 a_75 l_76) (.inl (some (.int r)), xw_R X s_57_0 s_57_1 s_57_18 s_57_19 s_57_20 s_57_24 a_58 a_59 a_60 a_61 a_62 a_63 a_64 a_65 t_lines t_numbers a_68 a_69 t_parts t_sorts t_values t_items a_74 a_75 l_76) := by
  intro v1 v2 v3 r h
  unfold xf_rf_isMissing_57 at h
  refine xe_seg ok 2 (G := (fun K => K (55, xm_i55, xm_I55, 0, 0, 60, [(0, .ref 59), (1, .int v1), (2, .int v2), (3, .int v3), (4, .int ((0 : Int32)))], [], xw_R X s_57_0 s_57_1 s_57_18 s_57_19 s_57_20 s_57_24 a_58 a_59 a_60 a_61 a_62 a_63 a_64 a_65 t_lines t_numbers a_68 a_69 t_parts t_sorts t_values t_items a_74 a_75 l_76))) (fun K => rfl) ?_
  refine xe_k ?_
  refine xe_sub [true, true, true, true, true] (lv' := [(0, .ref 59), (1, .int v1), (2, .int v2), (3, .int v3), (4, .int ((0 : Int32)))]) rfl ?_
  have hz := xh_rf_isMissing_57_60 (l := l) (g := g) ok a_58 a_59 a_60 a_61 a_62 a_63 a_64 a_65 a_68 a_69 a_74 a_75 l_76 s_57_0 s_57_1 s_57_18 s_57_19 s_57_20 s_57_24 X t_items t_lines t_numbers t_parts t_sorts t_values hk7 n n v1 v2 v3 ((0 : Int32)) _ h
  exact hz
set_option maxHeartbeats 400000 in
theorem xh_rf_isMissing_57_56 {l : Launch} {g : xr_G} (ok : xr_OK xm_P) (a_58 a_59 a_60 a_61 a_62 a_63 a_64 a_65 a_68 a_69 a_74 a_75 : Nat → Int32) (l_76 : Nat → Int64) (s_57_0 s_57_1 s_57_18 s_57_19 s_57_20 s_57_24 : Int32) (X : Nat → xr_C) (t_items : (Nat → Int32)) (t_lines : (Nat → Int32)) (t_numbers : (Nat → Int32)) (t_parts : (Nat → Int32)) (t_sorts : (Nat → Int32)) (t_values : (Nat → Int32)) {k7 : Int32 → Int32 → Int32 → Option (Int32)} (hk7 : ∀ (v1 : Int32) (v2 : Int32) (v3 : Int32) (r : (Int32)), k7 v1 v2 v3 = some r → xV xm_P l g (55, xm_i55, xm_I55, 0, 0, 7, [(0, .ref 59), (1, .int v1), (2, .int v2), (3, .int v3)], [], xw_R X s_57_0 s_57_1 s_57_18 s_57_19 s_57_20 s_57_24 a_58 a_59 a_60 a_61 a_62 a_63 a_64 a_65 t_lines t_numbers a_68 a_69 t_parts t_sorts t_values t_items a_74 a_75 l_76) (.inl (some (.int r)), xw_R X s_57_0 s_57_1 s_57_18 s_57_19 s_57_20 s_57_24 a_58 a_59 a_60 a_61 a_62 a_63 a_64 a_65 t_lines t_numbers a_68 a_69 t_parts t_sorts t_values t_items a_74 a_75 l_76)) (n : Nat) : ∀ (v1 : Int32) (v3 : Int32) (s0 : Int32) (r : (Int32)), xf_rf_isMissing_56 t_items t_lines t_numbers t_parts t_sorts t_values k7 n v1 v3 s0 = some r → xV xm_P l g (55, xm_i55, xm_I55, 0, 0, 56, [(0, .ref 59), (1, .int v1), (3, .int v3)], [.int s0], xw_R X s_57_0 s_57_1 s_57_18 s_57_19 s_57_20 s_57_24 a_58 a_59 a_60 a_61 a_62 a_63 a_64 a_65 t_lines t_numbers a_68 a_69 t_parts t_sorts t_values t_items a_74 a_75 l_76) (.inl (some (.int r)), xw_R X s_57_0 s_57_1 s_57_18 s_57_19 s_57_20 s_57_24 a_58 a_59 a_60 a_61 a_62 a_63 a_64 a_65 t_lines t_numbers a_68 a_69 t_parts t_sorts t_values t_items a_74 a_75 l_76) := by
  intro v1 v3 s0 r h
  unfold xf_rf_isMissing_56 at h
  refine xe_seg ok 1 (G := (fun K => K (55, xm_i55, xm_I55, 0, 0, 57, [(0, .ref 59), (1, .int v1), (2, .int s0), (3, .int v3)], [], xw_R X s_57_0 s_57_1 s_57_18 s_57_19 s_57_20 s_57_24 a_58 a_59 a_60 a_61 a_62 a_63 a_64 a_65 t_lines t_numbers a_68 a_69 t_parts t_sorts t_values t_items a_74 a_75 l_76))) (fun K => rfl) ?_
  refine xe_k ?_
  refine xe_sub [true, true, true, true] (lv' := [(0, .ref 59), (1, .int v1), (2, .int s0), (3, .int v3)]) rfl ?_
  have hz := xh_rf_isMissing_57_57 (l := l) (g := g) ok a_58 a_59 a_60 a_61 a_62 a_63 a_64 a_65 a_68 a_69 a_74 a_75 l_76 s_57_0 s_57_1 s_57_18 s_57_19 s_57_20 s_57_24 X t_items t_lines t_numbers t_parts t_sorts t_values hk7 n v1 s0 v3 _ h
  exact hz
set_option maxHeartbeats 400000 in
theorem xh_rf_isMissing_57_51 {l : Launch} {g : xr_G} (ok : xr_OK xm_P) (a_58 a_59 a_60 a_61 a_62 a_63 a_64 a_65 a_68 a_69 a_74 a_75 : Nat → Int32) (l_76 : Nat → Int64) (s_57_0 s_57_1 s_57_18 s_57_19 s_57_20 s_57_24 : Int32) (X : Nat → xr_C) (t_items : (Nat → Int32)) (t_lines : (Nat → Int32)) (t_numbers : (Nat → Int32)) (t_parts : (Nat → Int32)) (t_sorts : (Nat → Int32)) (t_values : (Nat → Int32)) {k7 : Int32 → Int32 → Int32 → Option (Int32)} (hk7 : ∀ (v1 : Int32) (v2 : Int32) (v3 : Int32) (r : (Int32)), k7 v1 v2 v3 = some r → xV xm_P l g (55, xm_i55, xm_I55, 0, 0, 7, [(0, .ref 59), (1, .int v1), (2, .int v2), (3, .int v3)], [], xw_R X s_57_0 s_57_1 s_57_18 s_57_19 s_57_20 s_57_24 a_58 a_59 a_60 a_61 a_62 a_63 a_64 a_65 t_lines t_numbers a_68 a_69 t_parts t_sorts t_values t_items a_74 a_75 l_76) (.inl (some (.int r)), xw_R X s_57_0 s_57_1 s_57_18 s_57_19 s_57_20 s_57_24 a_58 a_59 a_60 a_61 a_62 a_63 a_64 a_65 t_lines t_numbers a_68 a_69 t_parts t_sorts t_values t_items a_74 a_75 l_76)) (n : Nat) : ∀ (v1 : Int32) (v3 : Int32) (r : (Int32)), xf_rf_isMissing_51 t_items t_lines t_numbers t_parts t_sorts t_values k7 n v1 v3 = some r → xV xm_P l g (55, xm_i55, xm_I55, 0, 0, 51, [(0, .ref 59), (1, .int v1), (3, .int v3)], [], xw_R X s_57_0 s_57_1 s_57_18 s_57_19 s_57_20 s_57_24 a_58 a_59 a_60 a_61 a_62 a_63 a_64 a_65 t_lines t_numbers a_68 a_69 t_parts t_sorts t_values t_items a_74 a_75 l_76) (.inl (some (.int r)), xw_R X s_57_0 s_57_1 s_57_18 s_57_19 s_57_20 s_57_24 a_58 a_59 a_60 a_61 a_62 a_63 a_64 a_65 t_lines t_numbers a_68 a_69 t_parts t_sorts t_values t_items a_74 a_75 l_76) := by
  intro v1 v3 r h
  unfold xf_rf_isMissing_51 at h
  refine xe_seg ok 2 (G := (fun K => K (55, xm_i55, xm_I55, 0, 0, 56, [(0, .ref 59), (1, .int v1), (3, .int v3)], [.int ((1 : Int32))], xw_R X s_57_0 s_57_1 s_57_18 s_57_19 s_57_20 s_57_24 a_58 a_59 a_60 a_61 a_62 a_63 a_64 a_65 t_lines t_numbers a_68 a_69 t_parts t_sorts t_values t_items a_74 a_75 l_76))) (fun K => rfl) ?_
  refine xe_k ?_
  refine xe_sub [true, true, true] (lv' := [(0, .ref 59), (1, .int v1), (3, .int v3)]) rfl ?_
  have hz := xh_rf_isMissing_57_56 (l := l) (g := g) ok a_58 a_59 a_60 a_61 a_62 a_63 a_64 a_65 a_68 a_69 a_74 a_75 l_76 s_57_0 s_57_1 s_57_18 s_57_19 s_57_20 s_57_24 X t_items t_lines t_numbers t_parts t_sorts t_values hk7 n v1 v3 ((1 : Int32)) _ h
  exact hz
set_option maxHeartbeats 400000 in
theorem xh_rf_isMissing_57_7 {l : Launch} {g : xr_G} (ok : xr_OK xm_P) (a_58 a_59 a_60 a_61 a_62 a_63 a_64 a_65 a_68 a_69 a_74 a_75 : Nat → Int32) (l_76 : Nat → Int64) (s_57_0 s_57_1 s_57_18 s_57_19 s_57_20 s_57_24 : Int32) (X : Nat → xr_C) (t_items : (Nat → Int32)) (t_lines : (Nat → Int32)) (t_numbers : (Nat → Int32)) (t_parts : (Nat → Int32)) (t_sorts : (Nat → Int32)) (t_values : (Nat → Int32)) (n : Nat) : ∀ (N : Nat) (v1 : Int32) (v2 : Int32) (v3 : Int32) (r : (Int32)), xf_rf_isMissing_7 t_items t_lines t_numbers t_parts t_sorts t_values n N v1 v2 v3 = some r → xV xm_P l g (55, xm_i55, xm_I55, 0, 0, 7, [(0, .ref 59), (1, .int v1), (2, .int v2), (3, .int v3)], [], xw_R X s_57_0 s_57_1 s_57_18 s_57_19 s_57_20 s_57_24 a_58 a_59 a_60 a_61 a_62 a_63 a_64 a_65 t_lines t_numbers a_68 a_69 t_parts t_sorts t_values t_items a_74 a_75 l_76) (.inl (some (.int r)), xw_R X s_57_0 s_57_1 s_57_18 s_57_19 s_57_20 s_57_24 a_58 a_59 a_60 a_61 a_62 a_63 a_64 a_65 t_lines t_numbers a_68 a_69 t_parts t_sorts t_values t_items a_74 a_75 l_76) := by
  intro N
  induction N with
  | zero => intro v1 v2 v3 r h; cases h
  | succ N hk7 =>
    intro v1 v2 v3 r h
    refine xe_seg ok 8 (G := (fun K => if xr_in v1 120 = true then K (55, xm_i55, xm_I55, 0, 0, 18, [(0, .ref 59), (1, .int v1), (2, .int v2), (3, .int v3)], [.int (t_parts v1.toNatClampNeg), .int (((8 : Int32)) * v1), .int v3], xw_R X s_57_0 s_57_1 s_57_18 s_57_19 s_57_20 s_57_24 a_58 a_59 a_60 a_61 a_62 a_63 a_64 a_65 t_lines t_numbers a_68 a_69 t_parts t_sorts t_values t_items a_74 a_75 l_76) else none)) (fun K => rfl) ?_
    obtain ⟨hg699, h⟩ := xn_if h
    refine xe_pos hg699 (xe_k ?_)
    refine xe_seg ok 2 (G := (fun K => if v3 < ((((8 : Int32)) * v1) + (t_parts v1.toNatClampNeg)) then K (55, xm_i55, xm_I55, 0, 0, 22, [(0, .ref 59), (1, .int v1), (2, .int v2), (3, .int v3)], [], xw_R X s_57_0 s_57_1 s_57_18 s_57_19 s_57_20 s_57_24 a_58 a_59 a_60 a_61 a_62 a_63 a_64 a_65 t_lines t_numbers a_68 a_69 t_parts t_sorts t_values t_items a_74 a_75 l_76) else K (55, xm_i55, xm_I55, 0, 0, 124, [(0, .ref 59), (1, .int v1), (2, .int v2), (3, .int v3)], [], xw_R X s_57_0 s_57_1 s_57_18 s_57_19 s_57_20 s_57_24 a_58 a_59 a_60 a_61 a_62 a_63 a_64 a_65 t_lines t_numbers a_68 a_69 t_parts t_sorts t_values t_items a_74 a_75 l_76))) (fun K => rfl) ?_
    rcases xb_if h with ⟨hc700, h⟩ | ⟨hc700, h⟩
    · refine xe_pos hc700 (xe_k ?_)
      refine xe_seg ok 4 (G := (fun K => if xr_in v3 960 = true then K (55, xm_i55, xm_I55, 0, 0, 28, [(0, .ref 59), (1, .int v1), (2, .int v2), (3, .int v3)], [.int (t_sorts v3.toNatClampNeg)], xw_R X s_57_0 s_57_1 s_57_18 s_57_19 s_57_20 s_57_24 a_58 a_59 a_60 a_61 a_62 a_63 a_64 a_65 t_lines t_numbers a_68 a_69 t_parts t_sorts t_values t_items a_74 a_75 l_76) else none)) (fun K => rfl) ?_
      obtain ⟨hg701, h⟩ := xn_if h
      refine xe_pos hg701 (xe_k ?_)
      refine xe_seg ok 2 (G := (fun K => if (t_sorts v3.toNatClampNeg) = ((2 : Int32)) then K (55, xm_i55, xm_I55, 0, 0, 32, [(0, .ref 59), (1, .int v1), (2, .int v2), (3, .int v3)], [], xw_R X s_57_0 s_57_1 s_57_18 s_57_19 s_57_20 s_57_24 a_58 a_59 a_60 a_61 a_62 a_63 a_64 a_65 t_lines t_numbers a_68 a_69 t_parts t_sorts t_values t_items a_74 a_75 l_76) else K (55, xm_i55, xm_I55, 0, 0, 57, [(0, .ref 59), (1, .int v1), (2, .int v2), (3, .int v3)], [], xw_R X s_57_0 s_57_1 s_57_18 s_57_19 s_57_20 s_57_24 a_58 a_59 a_60 a_61 a_62 a_63 a_64 a_65 t_lines t_numbers a_68 a_69 t_parts t_sorts t_values t_items a_74 a_75 l_76))) (fun K => rfl) ?_
      rcases xb_if h with ⟨hc702, h⟩ | ⟨hc702, h⟩
      · refine xe_pos hc702 (xe_k ?_)
        refine xe_seg ok 2 (G := (fun K => if v2 = (0 : Int32) then K (55, xm_i55, xm_I55, 0, 0, 36, [(0, .ref 59), (1, .int v1), (2, .int v2), (3, .int v3)], [], xw_R X s_57_0 s_57_1 s_57_18 s_57_19 s_57_20 s_57_24 a_58 a_59 a_60 a_61 a_62 a_63 a_64 a_65 t_lines t_numbers a_68 a_69 t_parts t_sorts t_values t_items a_74 a_75 l_76) else K (55, xm_i55, xm_I55, 0, 0, 51, [(0, .ref 59), (1, .int v1), (2, .int v2), (3, .int v3)], [], xw_R X s_57_0 s_57_1 s_57_18 s_57_19 s_57_20 s_57_24 a_58 a_59 a_60 a_61 a_62 a_63 a_64 a_65 t_lines t_numbers a_68 a_69 t_parts t_sorts t_values t_items a_74 a_75 l_76))) (fun K => rfl) ?_
        rcases xb_if h with ⟨hc703, h⟩ | ⟨hc703, h⟩
        · refine xe_pos hc703 (xe_k ?_)
          refine xe_seg ok 6 (G := (fun K => if xr_in v3 960 = true then K (55, xm_i55, xm_I55, 0, 0, 44, [(0, .ref 59), (1, .int v1), (2, .int v2), (3, .int v3)], [.int (t_values v3.toNatClampNeg), .int ((1 : Int32)), .ref 59], xw_R X s_57_0 s_57_1 s_57_18 s_57_19 s_57_20 s_57_24 a_58 a_59 a_60 a_61 a_62 a_63 a_64 a_65 t_lines t_numbers a_68 a_69 t_parts t_sorts t_values t_items a_74 a_75 l_76) else none)) (fun K => rfl) ?_
          obtain ⟨hg704, h⟩ := xn_if h
          refine xe_pos hg704 (xe_k ?_)
          refine xe_seg ok 1 (G := (fun K => xr_back K 55 xm_i55 xm_I55 0 0 44 [(0, .ref 59), (1, .int v1), (2, .int v2), (3, .int v3)] [] 78 true (K (50, xm_i50, xm_I50, 0, 0, 0, [(0, .ref 59), (1, .int ((1 : Int32))), (2, .int (t_values v3.toNatClampNeg))], [], xw_R X s_57_0 s_57_1 s_57_18 s_57_19 s_57_20 s_57_24 a_58 a_59 a_60 a_61 a_62 a_63 a_64 a_65 t_lines t_numbers a_68 a_69 t_parts t_sorts t_values t_items a_74 a_75 l_76)))) (fun K => rfl) ?_
          obtain ⟨q709, hq709, h⟩ := Option.bind_eq_some_iff.mp h
          have heq709 := xh_rf_find_57 (l := l) (g := g) ok a_58 a_59 a_60 a_61 a_62 a_63 a_64 a_65 a_68 a_69 t_parts t_sorts t_values t_items a_74 a_75 l_76 s_57_0 s_57_1 s_57_18 s_57_19 s_57_20 s_57_24 X t_lines t_numbers n ((1 : Int32)) (t_values v3.toNatClampNeg) _ hq709
          refine xe_call1 (ws' := xw_R X s_57_0 s_57_1 s_57_18 s_57_19 s_57_20 s_57_24 a_58 a_59 a_60 a_61 a_62 a_63 a_64 a_65 t_lines t_numbers a_68 a_69 t_parts t_sorts t_values t_items a_74 a_75 l_76) (by decide) heq709 (Or.inl rfl) ?_
          refine xe_seg ok 2 (G := (fun K => if q709 = ((-1 : Int32)) then K (55, xm_i55, xm_I55, 0, 0, 51, [(0, .ref 59), (1, .int v1), (2, .int v2), (3, .int v3)], [], xw_R X s_57_0 s_57_1 s_57_18 s_57_19 s_57_20 s_57_24 a_58 a_59 a_60 a_61 a_62 a_63 a_64 a_65 t_lines t_numbers a_68 a_69 t_parts t_sorts t_values t_items a_74 a_75 l_76) else K (55, xm_i55, xm_I55, 0, 0, 55, [(0, .ref 59), (1, .int v1), (2, .int v2), (3, .int v3)], [], xw_R X s_57_0 s_57_1 s_57_18 s_57_19 s_57_20 s_57_24 a_58 a_59 a_60 a_61 a_62 a_63 a_64 a_65 t_lines t_numbers a_68 a_69 t_parts t_sorts t_values t_items a_74 a_75 l_76))) (fun K => rfl) ?_
          rcases xb_if h with ⟨hc710, h⟩ | ⟨hc710, h⟩
          · refine xe_pos hc710 (xe_k ?_)
            refine xe_sub [true, true, false, true] (lv' := [(0, .ref 59), (1, .int v1), (3, .int v3)]) rfl ?_
            have hz := xh_rf_isMissing_57_51 (l := l) (g := g) ok a_58 a_59 a_60 a_61 a_62 a_63 a_64 a_65 a_68 a_69 a_74 a_75 l_76 s_57_0 s_57_1 s_57_18 s_57_19 s_57_20 s_57_24 X t_items t_lines t_numbers t_parts t_sorts t_values hk7 n v1 v3 _ h
            exact hz
          · refine xe_neg hc710 (xe_k ?_)
            refine xe_seg ok 1 (G := (fun K => K (55, xm_i55, xm_I55, 0, 0, 56, [(0, .ref 59), (1, .int v1), (2, .int v2), (3, .int v3)], [.int ((0 : Int32))], xw_R X s_57_0 s_57_1 s_57_18 s_57_19 s_57_20 s_57_24 a_58 a_59 a_60 a_61 a_62 a_63 a_64 a_65 t_lines t_numbers a_68 a_69 t_parts t_sorts t_values t_items a_74 a_75 l_76))) (fun K => rfl) ?_
            refine xe_k ?_
            refine xe_sub [true, true, false, true] (lv' := [(0, .ref 59), (1, .int v1), (3, .int v3)]) rfl ?_
            have hz := xh_rf_isMissing_57_56 (l := l) (g := g) ok a_58 a_59 a_60 a_61 a_62 a_63 a_64 a_65 a_68 a_69 a_74 a_75 l_76 s_57_0 s_57_1 s_57_18 s_57_19 s_57_20 s_57_24 X t_items t_lines t_numbers t_parts t_sorts t_values hk7 n v1 v3 ((0 : Int32)) _ h
            exact hz
        · refine xe_neg hc703 (xe_k ?_)
          refine xe_sub [true, true, false, true] (lv' := [(0, .ref 59), (1, .int v1), (3, .int v3)]) rfl ?_
          have hz := xh_rf_isMissing_57_51 (l := l) (g := g) ok a_58 a_59 a_60 a_61 a_62 a_63 a_64 a_65 a_68 a_69 a_74 a_75 l_76 s_57_0 s_57_1 s_57_18 s_57_19 s_57_20 s_57_24 X t_items t_lines t_numbers t_parts t_sorts t_values hk7 n v1 v3 _ h
          exact hz
      · refine xe_neg hc702 (xe_k ?_)
        refine xe_sub [true, true, true, true] (lv' := [(0, .ref 59), (1, .int v1), (2, .int v2), (3, .int v3)]) rfl ?_
        have hz := xh_rf_isMissing_57_57 (l := l) (g := g) ok a_58 a_59 a_60 a_61 a_62 a_63 a_64 a_65 a_68 a_69 a_74 a_75 l_76 s_57_0 s_57_1 s_57_18 s_57_19 s_57_20 s_57_24 X t_items t_lines t_numbers t_parts t_sorts t_values hk7 n v1 v2 v3 _ h
        exact hz
    · refine xe_neg hc700 (xe_k ?_)
      refine xe_seg ok 2 (G := (fun _ => if fits .boolean (.int v2) = true then some (.inl (some (.int v2)), xw_R X s_57_0 s_57_1 s_57_18 s_57_19 s_57_20 s_57_24 a_58 a_59 a_60 a_61 a_62 a_63 a_64 a_65 t_lines t_numbers a_68 a_69 t_parts t_sorts t_values t_items a_74 a_75 l_76) else none)) (fun K => rfl) ?_
      obtain ⟨hg719, h⟩ := xn_if h
      obtain rfl := Option.some.inj h
      exact xe_pos (A := fun _ => some (.inl (some (.int v2)), xw_R X s_57_0 s_57_1 s_57_18 s_57_19 s_57_20 s_57_24 a_58 a_59 a_60 a_61 a_62 a_63 a_64 a_65 t_lines t_numbers a_68 a_69 t_parts t_sorts t_values t_items a_74 a_75 l_76)) (B := fun _ => none) hg719 xe_ret
set_option maxHeartbeats 400000 in
theorem xh_rf_isMissing_57 {l : Launch} {g : xr_G} (ok : xr_OK xm_P) (a_58 a_59 a_60 a_61 a_62 a_63 a_64 a_65 a_68 a_69 a_74 a_75 : Nat → Int32) (l_76 : Nat → Int64) (s_57_0 s_57_1 s_57_18 s_57_19 s_57_20 s_57_24 : Int32) (X : Nat → xr_C) (t_items : (Nat → Int32)) (t_lines : (Nat → Int32)) (t_numbers : (Nat → Int32)) (t_parts : (Nat → Int32)) (t_sorts : (Nat → Int32)) (t_values : (Nat → Int32)) (n : Nat) : ∀ (a1 : Int32) (r : (Int32)), xf_rf_isMissing t_items t_lines t_numbers t_parts t_sorts t_values n a1 = some r → xV xm_P l g (55, xm_i55, xm_I55, 0, 0, 0, [(0, .ref 59), (1, .int a1)], [], xw_R X s_57_0 s_57_1 s_57_18 s_57_19 s_57_20 s_57_24 a_58 a_59 a_60 a_61 a_62 a_63 a_64 a_65 t_lines t_numbers a_68 a_69 t_parts t_sorts t_values t_items a_74 a_75 l_76) (.inl (some (.int r)), xw_R X s_57_0 s_57_1 s_57_18 s_57_19 s_57_20 s_57_24 a_58 a_59 a_60 a_61 a_62 a_63 a_64 a_65 t_lines t_numbers a_68 a_69 t_parts t_sorts t_values t_items a_74 a_75 l_76) := by
  intro a1 r h
  unfold xf_rf_isMissing at h
  refine xe_seg ok 6 (G := (fun K => K (55, xm_i55, xm_I55, 0, 0, 7, [(0, .ref 59), (1, .int a1), (2, .int ((0 : Int32))), (3, .int (((8 : Int32)) * a1))], [], xw_R X s_57_0 s_57_1 s_57_18 s_57_19 s_57_20 s_57_24 a_58 a_59 a_60 a_61 a_62 a_63 a_64 a_65 t_lines t_numbers a_68 a_69 t_parts t_sorts t_values t_items a_74 a_75 l_76))) (fun K => rfl) ?_
  refine xe_k ?_
  refine xe_sub [true, true, true, true] (lv' := [(0, .ref 59), (1, .int a1), (2, .int ((0 : Int32))), (3, .int (((8 : Int32)) * a1))]) rfl ?_
  have hz := xh_rf_isMissing_57_7 (l := l) (g := g) ok a_58 a_59 a_60 a_61 a_62 a_63 a_64 a_65 a_68 a_69 a_74 a_75 l_76 s_57_0 s_57_1 s_57_18 s_57_19 s_57_20 s_57_24 X t_items t_lines t_numbers t_parts t_sorts t_values n n a1 ((0 : Int32)) (((8 : Int32)) * a1) _ h
  exact hz
set_option maxHeartbeats 400000 in
theorem xh_rf_read_57_167 {l : Launch} {g : xr_G} (ok : xr_OK xm_P) (a_59 a_60 a_61 a_62 a_63 a_64 a_65 a_74 a_75 : Nat → Int32) (l_76 : Nat → Int64) (s_57_24 : Int32) (X : Nat → xr_C) (t_text : (Nat → Int32)) {k115 : Int32 → Int32 → Int32 → (Nat → Int32) → (Nat → Int32) → (Nat → Int32) → (Nat → Int32) → (Nat → Int32) → (Nat → Int32) → Int32 → (Nat → Int32) → Int32 → (Nat → Int32) → Int32 → Option (Int32 × Int32 × Int32 × Int32 × (Nat → Int32) × (Nat → Int32) × (Nat → Int32) × (Nat → Int32) × (Nat → Int32) × (Nat → Int32) × Int32 × (Nat → Int32) × Int32 × (Nat → Int32))} (hk115 : ∀ (t_at : Int32) (t_fault : Int32) (t_from : Int32) (t_items : (Nat → Int32)) (t_letters : (Nat → Int32)) (t_lines : (Nat → Int32)) (t_names : (Nat → Int32)) (t_numbers : (Nat → Int32)) (t_parts : (Nat → Int32)) (t_size : Int32) (t_sorts : (Nat → Int32)) (t_thrown : Int32) (t_values : (Nat → Int32)) (v1 : Int32) (r : (Int32 × Int32 × Int32 × Int32 × (Nat → Int32) × (Nat → Int32) × (Nat → Int32) × (Nat → Int32) × (Nat → Int32) × (Nat → Int32) × Int32 × (Nat → Int32) × Int32 × (Nat → Int32))), k115 t_at t_fault t_from t_items t_letters t_lines t_names t_numbers t_parts t_size t_sorts t_thrown t_values v1 = some r → xV xm_P l g (57, xm_i57, xm_I57, 0, 0, 115, [(0, .ref 59), (1, .int v1)], [], xw_R X t_thrown t_size t_at t_fault t_from s_57_24 t_text a_59 a_60 a_61 a_62 a_63 a_64 a_65 t_lines t_numbers t_letters t_names t_parts t_sorts t_values t_items a_74 a_75 l_76) (.inl (some (.int r.1)), xw_R X r.2.2.2.2.2.2.2.2.2.2.2.2.1 r.2.2.2.2.2.2.2.2.2.2.1 r.2.1 r.2.2.1 r.2.2.2.1 s_57_24 t_text a_59 a_60 a_61 a_62 a_63 a_64 a_65 r.2.2.2.2.2.2.1 r.2.2.2.2.2.2.2.2.1 r.2.2.2.2.2.1 r.2.2.2.2.2.2.2.1 r.2.2.2.2.2.2.2.2.2.1 r.2.2.2.2.2.2.2.2.2.2.2.1 r.2.2.2.2.2.2.2.2.2.2.2.2.2 r.2.2.2.2.1 a_74 a_75 l_76)) {k133 : Int32 → Int32 → Int32 → (Nat → Int32) → (Nat → Int32) → (Nat → Int32) → (Nat → Int32) → (Nat → Int32) → (Nat → Int32) → Int32 → (Nat → Int32) → Int32 → (Nat → Int32) → Int32 → Int32 → Int32 → Option (Int32 × Int32 × Int32 × Int32 × (Nat → Int32) × (Nat → Int32) × (Nat → Int32) × (Nat → Int32) × (Nat → Int32) × (Nat → Int32) × Int32 × (Nat → Int32) × Int32 × (Nat → Int32))} (hk133 : ∀ (t_at : Int32) (t_fault : Int32) (t_from : Int32) (t_items : (Nat → Int32)) (t_letters : (Nat → Int32)) (t_lines : (Nat → Int32)) (t_names : (Nat → Int32)) (t_numbers : (Nat → Int32)) (t_parts : (Nat → Int32)) (t_size : Int32) (t_sorts : (Nat → Int32)) (t_thrown : Int32) (t_values : (Nat → Int32)) (v1 : Int32) (v2 : Int32) (v3 : Int32) (r : (Int32 × Int32 × Int32 × Int32 × (Nat → Int32) × (Nat → Int32) × (Nat → Int32) × (Nat → Int32) × (Nat → Int32) × (Nat → Int32) × Int32 × (Nat → Int32) × Int32 × (Nat → Int32))), k133 t_at t_fault t_from t_items t_letters t_lines t_names t_numbers t_parts t_size t_sorts t_thrown t_values v1 v2 v3 = some r → xV xm_P l g (57, xm_i57, xm_I57, 0, 0, 133, [(0, .ref 59), (1, .int v1), (2, .int v2), (3, .int v3)], [], xw_R X t_thrown t_size t_at t_fault t_from s_57_24 t_text a_59 a_60 a_61 a_62 a_63 a_64 a_65 t_lines t_numbers t_letters t_names t_parts t_sorts t_values t_items a_74 a_75 l_76) (.inl (some (.int r.1)), xw_R X r.2.2.2.2.2.2.2.2.2.2.2.2.1 r.2.2.2.2.2.2.2.2.2.2.1 r.2.1 r.2.2.1 r.2.2.2.1 s_57_24 t_text a_59 a_60 a_61 a_62 a_63 a_64 a_65 r.2.2.2.2.2.2.1 r.2.2.2.2.2.2.2.2.1 r.2.2.2.2.2.1 r.2.2.2.2.2.2.2.1 r.2.2.2.2.2.2.2.2.2.1 r.2.2.2.2.2.2.2.2.2.2.2.1 r.2.2.2.2.2.2.2.2.2.2.2.2.2 r.2.2.2.2.1 a_74 a_75 l_76)) (n : Nat) : ∀ (t_at : Int32) (t_fault : Int32) (t_from : Int32) (t_items : (Nat → Int32)) (t_letters : (Nat → Int32)) (t_lines : (Nat → Int32)) (t_names : (Nat → Int32)) (t_numbers : (Nat → Int32)) (t_parts : (Nat → Int32)) (t_size : Int32) (t_sorts : (Nat → Int32)) (t_thrown : Int32) (t_values : (Nat → Int32)) (v1 : Int32) (v3 : Int32) (s0 : Int32) (s1 : Int32) (r : (Int32 × Int32 × Int32 × Int32 × (Nat → Int32) × (Nat → Int32) × (Nat → Int32) × (Nat → Int32) × (Nat → Int32) × (Nat → Int32) × Int32 × (Nat → Int32) × Int32 × (Nat → Int32))), xf_rf_read_167 t_text k115 k133 n t_at t_fault t_from t_items t_letters t_lines t_names t_numbers t_parts t_size t_sorts t_thrown t_values v1 v3 s0 s1 = some r → xV xm_P l g (57, xm_i57, xm_I57, 0, 0, 167, [(0, .ref 59), (1, .int v1), (3, .int v3)], [.int s1, .int s0], xw_R X t_thrown t_size t_at t_fault t_from s_57_24 t_text a_59 a_60 a_61 a_62 a_63 a_64 a_65 t_lines t_numbers t_letters t_names t_parts t_sorts t_values t_items a_74 a_75 l_76) (.inl (some (.int r.1)), xw_R X r.2.2.2.2.2.2.2.2.2.2.2.2.1 r.2.2.2.2.2.2.2.2.2.2.1 r.2.1 r.2.2.1 r.2.2.2.1 s_57_24 t_text a_59 a_60 a_61 a_62 a_63 a_64 a_65 r.2.2.2.2.2.2.1 r.2.2.2.2.2.2.2.2.1 r.2.2.2.2.2.1 r.2.2.2.2.2.2.2.1 r.2.2.2.2.2.2.2.2.2.1 r.2.2.2.2.2.2.2.2.2.2.2.1 r.2.2.2.2.2.2.2.2.2.2.2.2.2 r.2.2.2.2.1 a_74 a_75 l_76) := by
  intro t_at t_fault t_from t_items t_letters t_lines t_names t_numbers t_parts t_size t_sorts t_thrown t_values v1 v3 s0 s1 r h
  unfold xf_rf_read_167 at h
  refine xe_seg ok 4 (G := (fun K => K (57, xm_i57, xm_I57, 0, 0, 133, [(0, .ref 59), (1, .int v1), (2, .int (s0 + s1)), (3, .int (v3 + (1 : Int32)))], [], xw_R X t_thrown t_size t_at t_fault t_from s_57_24 t_text a_59 a_60 a_61 a_62 a_63 a_64 a_65 t_lines t_numbers t_letters t_names t_parts t_sorts t_values t_items a_74 a_75 l_76))) (fun K => rfl) ?_
  refine xe_k ?_
  refine xe_sub [true, true, true, true] (lv' := [(0, .ref 59), (1, .int v1), (2, .int (s0 + s1)), (3, .int (v3 + (1 : Int32)))]) rfl ?_
  have hz := hk133 t_at t_fault t_from t_items t_letters t_lines t_names t_numbers t_parts t_size t_sorts t_thrown t_values v1 (s0 + s1) (v3 + (1 : Int32)) _ h
  exact hz
set_option maxHeartbeats 400000 in
theorem xh_rf_copy_57_118 {l : Launch} {g : xr_G} (ok : xr_OK xm_P) (a_58 a_59 a_60 a_61 a_62 a_63 a_64 a_65 a_66 a_74 a_75 : Nat → Int32) (l_76 : Nat → Int64) (s_57_0 s_57_1 s_57_18 s_57_19 s_57_20 s_57_24 : Int32) (X : Nat → xr_C) (n : Nat) : ∀ (N : Nat) (t_items : (Nat → Int32)) (t_letters : (Nat → Int32)) (t_names : (Nat → Int32)) (t_numbers : (Nat → Int32)) (t_parts : (Nat → Int32)) (t_sorts : (Nat → Int32)) (t_values : (Nat → Int32)) (v1 : Int32) (v2 : Int32) (v3 : Int32) (r : (Unit × (Nat → Int32) × (Nat → Int32) × (Nat → Int32) × (Nat → Int32) × (Nat → Int32) × (Nat → Int32) × (Nat → Int32))), xf_rf_copy_118 n N t_items t_letters t_names t_numbers t_parts t_sorts t_values v1 v2 v3 = some r → xV xm_P l g (56, xm_i56, xm_I56, 0, 0, 118, [(0, .ref 59), (1, .int v1), (2, .int v2), (3, .int v3)], [], xw_R X s_57_0 s_57_1 s_57_18 s_57_19 s_57_20 s_57_24 a_58 a_59 a_60 a_61 a_62 a_63 a_64 a_65 a_66 t_numbers t_letters t_names t_parts t_sorts t_values t_items a_74 a_75 l_76) (.inl none, xw_R X s_57_0 s_57_1 s_57_18 s_57_19 s_57_20 s_57_24 a_58 a_59 a_60 a_61 a_62 a_63 a_64 a_65 a_66 r.2.2.2.2.1 r.2.2.1 r.2.2.2.1 r.2.2.2.2.2.1 r.2.2.2.2.2.2.1 r.2.2.2.2.2.2.2 r.2.1 a_74 a_75 l_76) := by
  intro N
  induction N with
  | zero => intro t_items t_letters t_names t_numbers t_parts t_sorts t_values v1 v2 v3 r h; cases h
  | succ N hk118 =>
    intro t_items t_letters t_names t_numbers t_parts t_sorts t_values v1 v2 v3 r h
    refine xe_seg ok 3 (G := (fun K => if v3 < ((160 : Int32)) then K (56, xm_i56, xm_I56, 0, 0, 125, [(0, .ref 59), (1, .int v1), (2, .int v2), (3, .int v3)], [], xw_R X s_57_0 s_57_1 s_57_18 s_57_19 s_57_20 s_57_24 a_58 a_59 a_60 a_61 a_62 a_63 a_64 a_65 a_66 t_numbers t_letters t_names t_parts t_sorts t_values t_items a_74 a_75 l_76) else K (56, xm_i56, xm_I56, 0, 0, 155, [(0, .ref 59), (1, .int v1), (2, .int v2), (3, .int v3)], [], xw_R X s_57_0 s_57_1 s_57_18 s_57_19 s_57_20 s_57_24 a_58 a_59 a_60 a_61 a_62 a_63 a_64 a_65 a_66 t_numbers t_letters t_names t_parts t_sorts t_values t_items a_74 a_75 l_76))) (fun K => rfl) ?_
    rcases xb_if h with ⟨hc741, h⟩ | ⟨hc741, h⟩
    · refine xe_pos hc741 (xe_k ?_)
      refine xe_seg ok 15 (G := (fun K => if xr_in ((((160 : Int32)) * v2) + v3) 19200 = true then K (56, xm_i56, xm_I56, 0, 0, 148, [(0, .ref 59), (1, .int v1), (2, .int v2), (3, .int v3)], [.int (t_items ((((160 : Int32)) * v2) + v3).toNatClampNeg), .int ((((160 : Int32)) * v1) + v3), .ref 75], xw_R X s_57_0 s_57_1 s_57_18 s_57_19 s_57_20 s_57_24 a_58 a_59 a_60 a_61 a_62 a_63 a_64 a_65 a_66 t_numbers t_letters t_names t_parts t_sorts t_values t_items a_74 a_75 l_76) else none)) (fun K => rfl) ?_
      obtain ⟨hg742, h⟩ := xn_if h
      refine xe_pos hg742 (xe_k ?_)
      refine xe_seg ok 1 (G := (fun K => if xr_in ((((160 : Int32)) * v1) + v3) 19200 = true then K (56, xm_i56, xm_I56, 0, 0, 149, [(0, .ref 59), (1, .int v1), (2, .int v2), (3, .int v3)], [], xw_R X s_57_0 s_57_1 s_57_18 s_57_19 s_57_20 s_57_24 a_58 a_59 a_60 a_61 a_62 a_63 a_64 a_65 a_66 t_numbers t_letters t_names t_parts t_sorts t_values (upd t_items ((((160 : Int32)) * v1) + v3).toNatClampNeg ((t_items ((((160 : Int32)) * v2) + v3).toNatClampNeg))) a_74 a_75 l_76) else none)) (fun K => rfl) ?_
      obtain ⟨hg743, h⟩ := xn_if h
      refine xe_pos hg743 (xe_k ?_)
      refine xe_seg ok 2 (G := (fun K => K (56, xm_i56, xm_I56, 0, 0, 118, [(0, .ref 59), (1, .int v1), (2, .int v2), (3, .int (v3 + (1 : Int32)))], [], xw_R X s_57_0 s_57_1 s_57_18 s_57_19 s_57_20 s_57_24 a_58 a_59 a_60 a_61 a_62 a_63 a_64 a_65 a_66 t_numbers t_letters t_names t_parts t_sorts t_values (upd t_items ((((160 : Int32)) * v1) + v3).toNatClampNeg ((t_items ((((160 : Int32)) * v2) + v3).toNatClampNeg))) a_74 a_75 l_76))) (fun K => rfl) ?_
      refine xe_k ?_
      refine xe_sub [true, true, true, true] (lv' := [(0, .ref 59), (1, .int v1), (2, .int v2), (3, .int (v3 + (1 : Int32)))]) rfl ?_
      have hz := hk118 (upd t_items ((((160 : Int32)) * v1) + v3).toNatClampNeg ((t_items ((((160 : Int32)) * v2) + v3).toNatClampNeg))) t_letters t_names t_numbers t_parts t_sorts t_values v1 v2 (v3 + (1 : Int32)) _ h
      exact hz
    · refine xe_neg hc741 (xe_k ?_)
      obtain rfl := Option.some.inj h
      refine xe_seg ok 1 (G := (fun _ => some (.inl none, xw_R X s_57_0 s_57_1 s_57_18 s_57_19 s_57_20 s_57_24 a_58 a_59 a_60 a_61 a_62 a_63 a_64 a_65 a_66 t_numbers t_letters t_names t_parts t_sorts t_values t_items a_74 a_75 l_76))) (fun K => rfl) ?_
      exact xe_ret
set_option maxHeartbeats 400000 in
theorem xh_rf_copy_57_38 {l : Launch} {g : xr_G} (ok : xr_OK xm_P) (a_58 a_59 a_60 a_61 a_62 a_63 a_64 a_65 a_66 a_74 a_75 : Nat → Int32) (l_76 : Nat → Int64) (s_57_0 s_57_1 s_57_18 s_57_19 s_57_20 s_57_24 : Int32) (X : Nat → xr_C) (n : Nat) : ∀ (N : Nat) (t_items : (Nat → Int32)) (t_letters : (Nat → Int32)) (t_names : (Nat → Int32)) (t_numbers : (Nat → Int32)) (t_parts : (Nat → Int32)) (t_sorts : (Nat → Int32)) (t_values : (Nat → Int32)) (v1 : Int32) (v2 : Int32) (v3 : Int32) (r : (Unit × (Nat → Int32) × (Nat → Int32) × (Nat → Int32) × (Nat → Int32) × (Nat → Int32) × (Nat → Int32) × (Nat → Int32))), xf_rf_copy_38 n N t_items t_letters t_names t_numbers t_parts t_sorts t_values v1 v2 v3 = some r → xV xm_P l g (56, xm_i56, xm_I56, 0, 0, 38, [(0, .ref 59), (1, .int v1), (2, .int v2), (3, .int v3)], [], xw_R X s_57_0 s_57_1 s_57_18 s_57_19 s_57_20 s_57_24 a_58 a_59 a_60 a_61 a_62 a_63 a_64 a_65 a_66 t_numbers t_letters t_names t_parts t_sorts t_values t_items a_74 a_75 l_76) (.inl none, xw_R X s_57_0 s_57_1 s_57_18 s_57_19 s_57_20 s_57_24 a_58 a_59 a_60 a_61 a_62 a_63 a_64 a_65 a_66 r.2.2.2.2.1 r.2.2.1 r.2.2.2.1 r.2.2.2.2.2.1 r.2.2.2.2.2.2.1 r.2.2.2.2.2.2.2 r.2.1 a_74 a_75 l_76) := by
  intro N
  induction N with
  | zero => intro t_items t_letters t_names t_numbers t_parts t_sorts t_values v1 v2 v3 r h; cases h
  | succ N hk38 =>
    intro t_items t_letters t_names t_numbers t_parts t_sorts t_values v1 v2 v3 r h
    refine xe_seg ok 3 (G := (fun K => if v3 < ((8 : Int32)) then K (56, xm_i56, xm_I56, 0, 0, 44, [(0, .ref 59), (1, .int v1), (2, .int v2), (3, .int v3)], [], xw_R X s_57_0 s_57_1 s_57_18 s_57_19 s_57_20 s_57_24 a_58 a_59 a_60 a_61 a_62 a_63 a_64 a_65 a_66 t_numbers t_letters t_names t_parts t_sorts t_values t_items a_74 a_75 l_76) else K (56, xm_i56, xm_I56, 0, 0, 116, [(0, .ref 59), (1, .int v1), (2, .int v2), (3, .int v3)], [], xw_R X s_57_0 s_57_1 s_57_18 s_57_19 s_57_20 s_57_24 a_58 a_59 a_60 a_61 a_62 a_63 a_64 a_65 a_66 t_numbers t_letters t_names t_parts t_sorts t_values t_items a_74 a_75 l_76))) (fun K => rfl) ?_
    rcases xb_if h with ⟨hc734, h⟩ | ⟨hc734, h⟩
    · refine xe_pos hc734 (xe_k ?_)
      refine xe_seg ok 15 (G := (fun K => if xr_in ((((8 : Int32)) * v2) + v3) 960 = true then K (56, xm_i56, xm_I56, 0, 0, 65, [(0, .ref 59), (1, .int v1), (2, .int v2), (3, .int v3)], [.int (t_names ((((8 : Int32)) * v2) + v3).toNatClampNeg), .int ((((8 : Int32)) * v1) + v3), .ref 71], xw_R X s_57_0 s_57_1 s_57_18 s_57_19 s_57_20 s_57_24 a_58 a_59 a_60 a_61 a_62 a_63 a_64 a_65 a_66 t_numbers t_letters t_names t_parts t_sorts t_values t_items a_74 a_75 l_76) else none)) (fun K => rfl) ?_
      obtain ⟨hg735, h⟩ := xn_if h
      refine xe_pos hg735 (xe_k ?_)
      refine xe_seg ok 1 (G := (fun K => if xr_in ((((8 : Int32)) * v1) + v3) 960 = true then K (56, xm_i56, xm_I56, 0, 0, 66, [(0, .ref 59), (1, .int v1), (2, .int v2), (3, .int v3)], [], xw_R X s_57_0 s_57_1 s_57_18 s_57_19 s_57_20 s_57_24 a_58 a_59 a_60 a_61 a_62 a_63 a_64 a_65 a_66 t_numbers t_letters (upd t_names ((((8 : Int32)) * v1) + v3).toNatClampNeg ((t_names ((((8 : Int32)) * v2) + v3).toNatClampNeg))) t_parts t_sorts t_values t_items a_74 a_75 l_76) else none)) (fun K => rfl) ?_
      obtain ⟨hg736, h⟩ := xn_if h
      refine xe_pos hg736 (xe_k ?_)
      refine xe_seg ok 15 (G := (fun K => if xr_in ((((8 : Int32)) * v2) + v3) 960 = true then K (56, xm_i56, xm_I56, 0, 0, 87, [(0, .ref 59), (1, .int v1), (2, .int v2), (3, .int v3)], [.int (t_sorts ((((8 : Int32)) * v2) + v3).toNatClampNeg), .int ((((8 : Int32)) * v1) + v3), .ref 73], xw_R X s_57_0 s_57_1 s_57_18 s_57_19 s_57_20 s_57_24 a_58 a_59 a_60 a_61 a_62 a_63 a_64 a_65 a_66 t_numbers t_letters (upd t_names ((((8 : Int32)) * v1) + v3).toNatClampNeg ((t_names ((((8 : Int32)) * v2) + v3).toNatClampNeg))) t_parts t_sorts t_values t_items a_74 a_75 l_76) else none)) (fun K => rfl) ?_
      obtain ⟨hg737, h⟩ := xn_if h
      refine xe_pos hg737 (xe_k ?_)
      refine xe_seg ok 1 (G := (fun K => if xr_in ((((8 : Int32)) * v1) + v3) 960 = true then K (56, xm_i56, xm_I56, 0, 0, 88, [(0, .ref 59), (1, .int v1), (2, .int v2), (3, .int v3)], [], xw_R X s_57_0 s_57_1 s_57_18 s_57_19 s_57_20 s_57_24 a_58 a_59 a_60 a_61 a_62 a_63 a_64 a_65 a_66 t_numbers t_letters (upd t_names ((((8 : Int32)) * v1) + v3).toNatClampNeg ((t_names ((((8 : Int32)) * v2) + v3).toNatClampNeg))) t_parts (upd t_sorts ((((8 : Int32)) * v1) + v3).toNatClampNeg ((t_sorts ((((8 : Int32)) * v2) + v3).toNatClampNeg))) t_values t_items a_74 a_75 l_76) else none)) (fun K => rfl) ?_
      obtain ⟨hg738, h⟩ := xn_if h
      refine xe_pos hg738 (xe_k ?_)
      refine xe_seg ok 15 (G := (fun K => if xr_in ((((8 : Int32)) * v2) + v3) 960 = true then K (56, xm_i56, xm_I56, 0, 0, 109, [(0, .ref 59), (1, .int v1), (2, .int v2), (3, .int v3)], [.int (t_values ((((8 : Int32)) * v2) + v3).toNatClampNeg), .int ((((8 : Int32)) * v1) + v3), .ref 74], xw_R X s_57_0 s_57_1 s_57_18 s_57_19 s_57_20 s_57_24 a_58 a_59 a_60 a_61 a_62 a_63 a_64 a_65 a_66 t_numbers t_letters (upd t_names ((((8 : Int32)) * v1) + v3).toNatClampNeg ((t_names ((((8 : Int32)) * v2) + v3).toNatClampNeg))) t_parts (upd t_sorts ((((8 : Int32)) * v1) + v3).toNatClampNeg ((t_sorts ((((8 : Int32)) * v2) + v3).toNatClampNeg))) t_values t_items a_74 a_75 l_76) else none)) (fun K => rfl) ?_
      obtain ⟨hg739, h⟩ := xn_if h
      refine xe_pos hg739 (xe_k ?_)
      refine xe_seg ok 1 (G := (fun K => if xr_in ((((8 : Int32)) * v1) + v3) 960 = true then K (56, xm_i56, xm_I56, 0, 0, 110, [(0, .ref 59), (1, .int v1), (2, .int v2), (3, .int v3)], [], xw_R X s_57_0 s_57_1 s_57_18 s_57_19 s_57_20 s_57_24 a_58 a_59 a_60 a_61 a_62 a_63 a_64 a_65 a_66 t_numbers t_letters (upd t_names ((((8 : Int32)) * v1) + v3).toNatClampNeg ((t_names ((((8 : Int32)) * v2) + v3).toNatClampNeg))) t_parts (upd t_sorts ((((8 : Int32)) * v1) + v3).toNatClampNeg ((t_sorts ((((8 : Int32)) * v2) + v3).toNatClampNeg))) (upd t_values ((((8 : Int32)) * v1) + v3).toNatClampNeg ((t_values ((((8 : Int32)) * v2) + v3).toNatClampNeg))) t_items a_74 a_75 l_76) else none)) (fun K => rfl) ?_
      obtain ⟨hg740, h⟩ := xn_if h
      refine xe_pos hg740 (xe_k ?_)
      refine xe_seg ok 2 (G := (fun K => K (56, xm_i56, xm_I56, 0, 0, 38, [(0, .ref 59), (1, .int v1), (2, .int v2), (3, .int (v3 + (1 : Int32)))], [], xw_R X s_57_0 s_57_1 s_57_18 s_57_19 s_57_20 s_57_24 a_58 a_59 a_60 a_61 a_62 a_63 a_64 a_65 a_66 t_numbers t_letters (upd t_names ((((8 : Int32)) * v1) + v3).toNatClampNeg ((t_names ((((8 : Int32)) * v2) + v3).toNatClampNeg))) t_parts (upd t_sorts ((((8 : Int32)) * v1) + v3).toNatClampNeg ((t_sorts ((((8 : Int32)) * v2) + v3).toNatClampNeg))) (upd t_values ((((8 : Int32)) * v1) + v3).toNatClampNeg ((t_values ((((8 : Int32)) * v2) + v3).toNatClampNeg))) t_items a_74 a_75 l_76))) (fun K => rfl) ?_
      refine xe_k ?_
      refine xe_sub [true, true, true, true] (lv' := [(0, .ref 59), (1, .int v1), (2, .int v2), (3, .int (v3 + (1 : Int32)))]) rfl ?_
      have hz := hk38 t_items t_letters (upd t_names ((((8 : Int32)) * v1) + v3).toNatClampNeg ((t_names ((((8 : Int32)) * v2) + v3).toNatClampNeg))) t_numbers t_parts (upd t_sorts ((((8 : Int32)) * v1) + v3).toNatClampNeg ((t_sorts ((((8 : Int32)) * v2) + v3).toNatClampNeg))) (upd t_values ((((8 : Int32)) * v1) + v3).toNatClampNeg ((t_values ((((8 : Int32)) * v2) + v3).toNatClampNeg))) v1 v2 (v3 + (1 : Int32)) _ h
      exact hz
    · refine xe_neg hc734 (xe_k ?_)
      refine xe_seg ok 2 (G := (fun K => K (56, xm_i56, xm_I56, 0, 0, 118, [(0, .ref 59), (1, .int v1), (2, .int v2), (3, .int ((0 : Int32)))], [], xw_R X s_57_0 s_57_1 s_57_18 s_57_19 s_57_20 s_57_24 a_58 a_59 a_60 a_61 a_62 a_63 a_64 a_65 a_66 t_numbers t_letters t_names t_parts t_sorts t_values t_items a_74 a_75 l_76))) (fun K => rfl) ?_
      refine xe_k ?_
      refine xe_sub [true, true, true, true] (lv' := [(0, .ref 59), (1, .int v1), (2, .int v2), (3, .int ((0 : Int32)))]) rfl ?_
      have hz := xh_rf_copy_57_118 (l := l) (g := g) ok a_58 a_59 a_60 a_61 a_62 a_63 a_64 a_65 a_66 a_74 a_75 l_76 s_57_0 s_57_1 s_57_18 s_57_19 s_57_20 s_57_24 X n n t_items t_letters t_names t_numbers t_parts t_sorts t_values v1 v2 ((0 : Int32)) _ h
      exact hz
set_option maxHeartbeats 400000 in
theorem xh_rf_copy_57 {l : Launch} {g : xr_G} (ok : xr_OK xm_P) (a_58 a_59 a_60 a_61 a_62 a_63 a_64 a_65 a_66 a_74 a_75 : Nat → Int32) (l_76 : Nat → Int64) (s_57_0 s_57_1 s_57_18 s_57_19 s_57_20 s_57_24 : Int32) (X : Nat → xr_C) (n : Nat) : ∀ (t_items : (Nat → Int32)) (t_letters : (Nat → Int32)) (t_names : (Nat → Int32)) (t_numbers : (Nat → Int32)) (t_parts : (Nat → Int32)) (t_sorts : (Nat → Int32)) (t_values : (Nat → Int32)) (a1 : Int32) (a2 : Int32) (r : (Unit × (Nat → Int32) × (Nat → Int32) × (Nat → Int32) × (Nat → Int32) × (Nat → Int32) × (Nat → Int32) × (Nat → Int32))), xf_rf_copy n t_items t_letters t_names t_numbers t_parts t_sorts t_values a1 a2 = some r → xV xm_P l g (56, xm_i56, xm_I56, 0, 0, 0, [(0, .ref 59), (1, .int a1), (2, .int a2)], [], xw_R X s_57_0 s_57_1 s_57_18 s_57_19 s_57_20 s_57_24 a_58 a_59 a_60 a_61 a_62 a_63 a_64 a_65 a_66 t_numbers t_letters t_names t_parts t_sorts t_values t_items a_74 a_75 l_76) (.inl none, xw_R X s_57_0 s_57_1 s_57_18 s_57_19 s_57_20 s_57_24 a_58 a_59 a_60 a_61 a_62 a_63 a_64 a_65 a_66 r.2.2.2.2.1 r.2.2.1 r.2.2.2.1 r.2.2.2.2.2.1 r.2.2.2.2.2.2.1 r.2.2.2.2.2.2.2 r.2.1 a_74 a_75 l_76) := by
  intro t_items t_letters t_names t_numbers t_parts t_sorts t_values a1 a2 r h
  unfold xf_rf_copy at h
  refine xe_seg ok 7 (G := (fun K => if xr_in a2 120 = true then K (56, xm_i56, xm_I56, 0, 0, 11, [(0, .ref 59), (1, .int a1), (2, .int a2)], [.int (t_numbers a2.toNatClampNeg), .int a1, .ref 69], xw_R X s_57_0 s_57_1 s_57_18 s_57_19 s_57_20 s_57_24 a_58 a_59 a_60 a_61 a_62 a_63 a_64 a_65 a_66 t_numbers t_letters t_names t_parts t_sorts t_values t_items a_74 a_75 l_76) else none)) (fun K => rfl) ?_
  obtain ⟨hg728, h⟩ := xn_if h
  refine xe_pos hg728 (xe_k ?_)
  refine xe_seg ok 1 (G := (fun K => if xr_in a1 120 = true then K (56, xm_i56, xm_I56, 0, 0, 12, [(0, .ref 59), (1, .int a1), (2, .int a2)], [], xw_R X s_57_0 s_57_1 s_57_18 s_57_19 s_57_20 s_57_24 a_58 a_59 a_60 a_61 a_62 a_63 a_64 a_65 a_66 (upd t_numbers a1.toNatClampNeg ((t_numbers a2.toNatClampNeg))) t_letters t_names t_parts t_sorts t_values t_items a_74 a_75 l_76) else none)) (fun K => rfl) ?_
  obtain ⟨hg729, h⟩ := xn_if h
  refine xe_pos hg729 (xe_k ?_)
  refine xe_seg ok 7 (G := (fun K => if xr_in a2 120 = true then K (56, xm_i56, xm_I56, 0, 0, 23, [(0, .ref 59), (1, .int a1), (2, .int a2)], [.int (t_letters a2.toNatClampNeg), .int a1, .ref 70], xw_R X s_57_0 s_57_1 s_57_18 s_57_19 s_57_20 s_57_24 a_58 a_59 a_60 a_61 a_62 a_63 a_64 a_65 a_66 (upd t_numbers a1.toNatClampNeg ((t_numbers a2.toNatClampNeg))) t_letters t_names t_parts t_sorts t_values t_items a_74 a_75 l_76) else none)) (fun K => rfl) ?_
  obtain ⟨hg730, h⟩ := xn_if h
  refine xe_pos hg730 (xe_k ?_)
  refine xe_seg ok 1 (G := (fun K => if xr_in a1 120 = true then K (56, xm_i56, xm_I56, 0, 0, 24, [(0, .ref 59), (1, .int a1), (2, .int a2)], [], xw_R X s_57_0 s_57_1 s_57_18 s_57_19 s_57_20 s_57_24 a_58 a_59 a_60 a_61 a_62 a_63 a_64 a_65 a_66 (upd t_numbers a1.toNatClampNeg ((t_numbers a2.toNatClampNeg))) (upd t_letters a1.toNatClampNeg ((t_letters a2.toNatClampNeg))) t_names t_parts t_sorts t_values t_items a_74 a_75 l_76) else none)) (fun K => rfl) ?_
  obtain ⟨hg731, h⟩ := xn_if h
  refine xe_pos hg731 (xe_k ?_)
  refine xe_seg ok 7 (G := (fun K => if xr_in a2 120 = true then K (56, xm_i56, xm_I56, 0, 0, 35, [(0, .ref 59), (1, .int a1), (2, .int a2)], [.int (t_parts a2.toNatClampNeg), .int a1, .ref 72], xw_R X s_57_0 s_57_1 s_57_18 s_57_19 s_57_20 s_57_24 a_58 a_59 a_60 a_61 a_62 a_63 a_64 a_65 a_66 (upd t_numbers a1.toNatClampNeg ((t_numbers a2.toNatClampNeg))) (upd t_letters a1.toNatClampNeg ((t_letters a2.toNatClampNeg))) t_names t_parts t_sorts t_values t_items a_74 a_75 l_76) else none)) (fun K => rfl) ?_
  obtain ⟨hg732, h⟩ := xn_if h
  refine xe_pos hg732 (xe_k ?_)
  refine xe_seg ok 1 (G := (fun K => if xr_in a1 120 = true then K (56, xm_i56, xm_I56, 0, 0, 36, [(0, .ref 59), (1, .int a1), (2, .int a2)], [], xw_R X s_57_0 s_57_1 s_57_18 s_57_19 s_57_20 s_57_24 a_58 a_59 a_60 a_61 a_62 a_63 a_64 a_65 a_66 (upd t_numbers a1.toNatClampNeg ((t_numbers a2.toNatClampNeg))) (upd t_letters a1.toNatClampNeg ((t_letters a2.toNatClampNeg))) t_names (upd t_parts a1.toNatClampNeg ((t_parts a2.toNatClampNeg))) t_sorts t_values t_items a_74 a_75 l_76) else none)) (fun K => rfl) ?_
  obtain ⟨hg733, h⟩ := xn_if h
  refine xe_pos hg733 (xe_k ?_)
  refine xe_seg ok 2 (G := (fun K => K (56, xm_i56, xm_I56, 0, 0, 38, [(0, .ref 59), (1, .int a1), (2, .int a2), (3, .int ((0 : Int32)))], [], xw_R X s_57_0 s_57_1 s_57_18 s_57_19 s_57_20 s_57_24 a_58 a_59 a_60 a_61 a_62 a_63 a_64 a_65 a_66 (upd t_numbers a1.toNatClampNeg ((t_numbers a2.toNatClampNeg))) (upd t_letters a1.toNatClampNeg ((t_letters a2.toNatClampNeg))) t_names (upd t_parts a1.toNatClampNeg ((t_parts a2.toNatClampNeg))) t_sorts t_values t_items a_74 a_75 l_76))) (fun K => rfl) ?_
  refine xe_k ?_
  refine xe_sub [true, true, true, true] (lv' := [(0, .ref 59), (1, .int a1), (2, .int a2), (3, .int ((0 : Int32)))]) rfl ?_
  have hz := xh_rf_copy_57_38 (l := l) (g := g) ok a_58 a_59 a_60 a_61 a_62 a_63 a_64 a_65 a_66 a_74 a_75 l_76 s_57_0 s_57_1 s_57_18 s_57_19 s_57_20 s_57_24 X n n t_items (upd t_letters a1.toNatClampNeg ((t_letters a2.toNatClampNeg))) t_names (upd t_numbers a1.toNatClampNeg ((t_numbers a2.toNatClampNeg))) (upd t_parts a1.toNatClampNeg ((t_parts a2.toNatClampNeg))) t_sorts t_values a1 a2 ((0 : Int32)) _ h
  exact hz
set_option maxHeartbeats 400000 in
theorem xh_rf_read_57_133 {l : Launch} {g : xr_G} (ok : xr_OK xm_P) (a_59 a_60 a_61 a_62 a_63 a_64 a_65 a_74 a_75 : Nat → Int32) (l_76 : Nat → Int64) (s_57_24 : Int32) (X : Nat → xr_C) (t_text : (Nat → Int32)) {k115 : Int32 → Int32 → Int32 → (Nat → Int32) → (Nat → Int32) → (Nat → Int32) → (Nat → Int32) → (Nat → Int32) → (Nat → Int32) → Int32 → (Nat → Int32) → Int32 → (Nat → Int32) → Int32 → Option (Int32 × Int32 × Int32 × Int32 × (Nat → Int32) × (Nat → Int32) × (Nat → Int32) × (Nat → Int32) × (Nat → Int32) × (Nat → Int32) × Int32 × (Nat → Int32) × Int32 × (Nat → Int32))} (hk115 : ∀ (t_at : Int32) (t_fault : Int32) (t_from : Int32) (t_items : (Nat → Int32)) (t_letters : (Nat → Int32)) (t_lines : (Nat → Int32)) (t_names : (Nat → Int32)) (t_numbers : (Nat → Int32)) (t_parts : (Nat → Int32)) (t_size : Int32) (t_sorts : (Nat → Int32)) (t_thrown : Int32) (t_values : (Nat → Int32)) (v1 : Int32) (r : (Int32 × Int32 × Int32 × Int32 × (Nat → Int32) × (Nat → Int32) × (Nat → Int32) × (Nat → Int32) × (Nat → Int32) × (Nat → Int32) × Int32 × (Nat → Int32) × Int32 × (Nat → Int32))), k115 t_at t_fault t_from t_items t_letters t_lines t_names t_numbers t_parts t_size t_sorts t_thrown t_values v1 = some r → xV xm_P l g (57, xm_i57, xm_I57, 0, 0, 115, [(0, .ref 59), (1, .int v1)], [], xw_R X t_thrown t_size t_at t_fault t_from s_57_24 t_text a_59 a_60 a_61 a_62 a_63 a_64 a_65 t_lines t_numbers t_letters t_names t_parts t_sorts t_values t_items a_74 a_75 l_76) (.inl (some (.int r.1)), xw_R X r.2.2.2.2.2.2.2.2.2.2.2.2.1 r.2.2.2.2.2.2.2.2.2.2.1 r.2.1 r.2.2.1 r.2.2.2.1 s_57_24 t_text a_59 a_60 a_61 a_62 a_63 a_64 a_65 r.2.2.2.2.2.2.1 r.2.2.2.2.2.2.2.2.1 r.2.2.2.2.2.1 r.2.2.2.2.2.2.2.1 r.2.2.2.2.2.2.2.2.2.1 r.2.2.2.2.2.2.2.2.2.2.2.1 r.2.2.2.2.2.2.2.2.2.2.2.2.2 r.2.2.2.2.1 a_74 a_75 l_76)) (n : Nat) : ∀ (N : Nat) (t_at : Int32) (t_fault : Int32) (t_from : Int32) (t_items : (Nat → Int32)) (t_letters : (Nat → Int32)) (t_lines : (Nat → Int32)) (t_names : (Nat → Int32)) (t_numbers : (Nat → Int32)) (t_parts : (Nat → Int32)) (t_size : Int32) (t_sorts : (Nat → Int32)) (t_thrown : Int32) (t_values : (Nat → Int32)) (v1 : Int32) (v2 : Int32) (v3 : Int32) (r : (Int32 × Int32 × Int32 × Int32 × (Nat → Int32) × (Nat → Int32) × (Nat → Int32) × (Nat → Int32) × (Nat → Int32) × (Nat → Int32) × Int32 × (Nat → Int32) × Int32 × (Nat → Int32))), xf_rf_read_133 t_text k115 n N t_at t_fault t_from t_items t_letters t_lines t_names t_numbers t_parts t_size t_sorts t_thrown t_values v1 v2 v3 = some r → xV xm_P l g (57, xm_i57, xm_I57, 0, 0, 133, [(0, .ref 59), (1, .int v1), (2, .int v2), (3, .int v3)], [], xw_R X t_thrown t_size t_at t_fault t_from s_57_24 t_text a_59 a_60 a_61 a_62 a_63 a_64 a_65 t_lines t_numbers t_letters t_names t_parts t_sorts t_values t_items a_74 a_75 l_76) (.inl (some (.int r.1)), xw_R X r.2.2.2.2.2.2.2.2.2.2.2.2.1 r.2.2.2.2.2.2.2.2.2.2.1 r.2.1 r.2.2.1 r.2.2.2.1 s_57_24 t_text a_59 a_60 a_61 a_62 a_63 a_64 a_65 r.2.2.2.2.2.2.1 r.2.2.2.2.2.2.2.2.1 r.2.2.2.2.2.1 r.2.2.2.2.2.2.2.1 r.2.2.2.2.2.2.2.2.2.1 r.2.2.2.2.2.2.2.2.2.2.2.1 r.2.2.2.2.2.2.2.2.2.2.2.2.2 r.2.2.2.2.1 a_74 a_75 l_76) := by
  intro N
  induction N with
  | zero => intro t_at t_fault t_from t_items t_letters t_lines t_names t_numbers t_parts t_size t_sorts t_thrown t_values v1 v2 v3 r h; cases h
  | succ N hk133 =>
    intro t_at t_fault t_from t_items t_letters t_lines t_names t_numbers t_parts t_size t_sorts t_thrown t_values v1 v2 v3 r h
    refine xe_seg ok 6 (G := (fun K => if xr_in ((1 : Int32)) 3 = true then K (57, xm_i57, xm_I57, 0, 0, 142, [(0, .ref 59), (1, .int v1), (2, .int v2), (3, .int v3)], [.int (t_lines ((1 : Int32)).toNatClampNeg), .int ((40 : Int32)), .int v3], xw_R X t_thrown t_size t_at t_fault t_from s_57_24 t_text a_59 a_60 a_61 a_62 a_63 a_64 a_65 t_lines t_numbers t_letters t_names t_parts t_sorts t_values t_items a_74 a_75 l_76) else none)) (fun K => rfl) ?_
    refine xe_pos (by decide) (xe_k ?_)
    refine xe_seg ok 2 (G := (fun K => if v3 < (((40 : Int32)) + (t_lines ((1 : Int32)).toNatClampNeg)) then K (57, xm_i57, xm_I57, 0, 0, 146, [(0, .ref 59), (1, .int v1), (2, .int v2), (3, .int v3)], [], xw_R X t_thrown t_size t_at t_fault t_from s_57_24 t_text a_59 a_60 a_61 a_62 a_63 a_64 a_65 t_lines t_numbers t_letters t_names t_parts t_sorts t_values t_items a_74 a_75 l_76) else K (57, xm_i57, xm_I57, 0, 0, 175, [(0, .ref 59), (1, .int v1), (2, .int v2), (3, .int v3)], [], xw_R X t_thrown t_size t_at t_fault t_from s_57_24 t_text a_59 a_60 a_61 a_62 a_63 a_64 a_65 t_lines t_numbers t_letters t_names t_parts t_sorts t_values t_items a_74 a_75 l_76))) (fun K => rfl) ?_
    rcases xb_if h with ⟨hc724, h⟩ | ⟨hc724, h⟩
    · refine xe_pos hc724 (xe_k ?_)
      refine xe_seg ok 5 (G := (fun K => if xr_in v3 120 = true then K (57, xm_i57, xm_I57, 0, 0, 153, [(0, .ref 59), (1, .int v1), (2, .int v2), (3, .int v3)], [.int (t_numbers v3.toNatClampNeg), .int v2], xw_R X t_thrown t_size t_at t_fault t_from s_57_24 t_text a_59 a_60 a_61 a_62 a_63 a_64 a_65 t_lines t_numbers t_letters t_names t_parts t_sorts t_values t_items a_74 a_75 l_76) else none)) (fun K => rfl) ?_
      obtain ⟨hg725, h⟩ := xn_if h
      refine xe_pos hg725 (xe_k ?_)
      refine xe_seg ok 4 (G := (fun K => if xr_in v1 120 = true then K (57, xm_i57, xm_I57, 0, 0, 159, [(0, .ref 59), (1, .int v1), (2, .int v2), (3, .int v3)], [.int (t_numbers v1.toNatClampNeg), .int (t_numbers v3.toNatClampNeg), .int v2], xw_R X t_thrown t_size t_at t_fault t_from s_57_24 t_text a_59 a_60 a_61 a_62 a_63 a_64 a_65 t_lines t_numbers t_letters t_names t_parts t_sorts t_values t_items a_74 a_75 l_76) else none)) (fun K => rfl) ?_
      obtain ⟨hg726, h⟩ := xn_if h
      refine xe_pos hg726 (xe_k ?_)
      refine xe_seg ok 1 (G := (fun K => if (t_numbers v3.toNatClampNeg) < (t_numbers v1.toNatClampNeg) then K (57, xm_i57, xm_I57, 0, 0, 162, [(0, .ref 59), (1, .int v1), (2, .int v2), (3, .int v3)], [.int v2], xw_R X t_thrown t_size t_at t_fault t_from s_57_24 t_text a_59 a_60 a_61 a_62 a_63 a_64 a_65 t_lines t_numbers t_letters t_names t_parts t_sorts t_values t_items a_74 a_75 l_76) else K (57, xm_i57, xm_I57, 0, 0, 166, [(0, .ref 59), (1, .int v1), (2, .int v2), (3, .int v3)], [.int v2], xw_R X t_thrown t_size t_at t_fault t_from s_57_24 t_text a_59 a_60 a_61 a_62 a_63 a_64 a_65 t_lines t_numbers t_letters t_names t_parts t_sorts t_values t_items a_74 a_75 l_76))) (fun K => rfl) ?_
      rcases xb_if h with ⟨hc727, h⟩ | ⟨hc727, h⟩
      · refine xe_pos hc727 (xe_k ?_)
        refine xe_seg ok 2 (G := (fun K => K (57, xm_i57, xm_I57, 0, 0, 167, [(0, .ref 59), (1, .int v1), (2, .int v2), (3, .int v3)], [.int ((1 : Int32)), .int v2], xw_R X t_thrown t_size t_at t_fault t_from s_57_24 t_text a_59 a_60 a_61 a_62 a_63 a_64 a_65 t_lines t_numbers t_letters t_names t_parts t_sorts t_values t_items a_74 a_75 l_76))) (fun K => rfl) ?_
        refine xe_k ?_
        refine xe_sub [true, true, false, true] (lv' := [(0, .ref 59), (1, .int v1), (3, .int v3)]) rfl ?_
        have hz := xh_rf_read_57_167 (l := l) (g := g) ok a_59 a_60 a_61 a_62 a_63 a_64 a_65 a_74 a_75 l_76 s_57_24 X t_text hk115 hk133 n t_at t_fault t_from t_items t_letters t_lines t_names t_numbers t_parts t_size t_sorts t_thrown t_values v1 v3 v2 ((1 : Int32)) _ h
        exact hz
      · refine xe_neg hc727 (xe_k ?_)
        refine xe_seg ok 1 (G := (fun K => K (57, xm_i57, xm_I57, 0, 0, 167, [(0, .ref 59), (1, .int v1), (2, .int v2), (3, .int v3)], [.int ((0 : Int32)), .int v2], xw_R X t_thrown t_size t_at t_fault t_from s_57_24 t_text a_59 a_60 a_61 a_62 a_63 a_64 a_65 t_lines t_numbers t_letters t_names t_parts t_sorts t_values t_items a_74 a_75 l_76))) (fun K => rfl) ?_
        refine xe_k ?_
        refine xe_sub [true, true, false, true] (lv' := [(0, .ref 59), (1, .int v1), (3, .int v3)]) rfl ?_
        have hz := xh_rf_read_57_167 (l := l) (g := g) ok a_59 a_60 a_61 a_62 a_63 a_64 a_65 a_74 a_75 l_76 s_57_24 X t_text hk115 hk133 n t_at t_fault t_from t_items t_letters t_lines t_names t_numbers t_parts t_size t_sorts t_thrown t_values v1 v3 v2 ((0 : Int32)) _ h
        exact hz
    · refine xe_neg hc724 (xe_k ?_)
      refine xe_seg ok 4 (G := (fun K => xr_back K 57 xm_i57 xm_I57 0 0 178 [(0, .ref 59), (1, .int v1), (2, .int v2), (3, .int v3)] [] 78 true (K (56, xm_i56, xm_I56, 0, 0, 0, [(0, .ref 59), (1, .int v2), (2, .int v1)], [], xw_R X t_thrown t_size t_at t_fault t_from s_57_24 t_text a_59 a_60 a_61 a_62 a_63 a_64 a_65 t_lines t_numbers t_letters t_names t_parts t_sorts t_values t_items a_74 a_75 l_76)))) (fun K => rfl) ?_
      obtain ⟨q744, hq744, h⟩ := Option.bind_eq_some_iff.mp h
      have heq744 := xh_rf_copy_57 (l := l) (g := g) ok t_text a_59 a_60 a_61 a_62 a_63 a_64 a_65 t_lines a_74 a_75 l_76 t_thrown t_size t_at t_fault t_from s_57_24 X n t_items t_letters t_names t_numbers t_parts t_sorts t_values v2 v1 _ hq744
      refine xe_call0 (ws' := xw_R X t_thrown t_size t_at t_fault t_from s_57_24 t_text a_59 a_60 a_61 a_62 a_63 a_64 a_65 t_lines q744.2.2.2.2.1 q744.2.2.1 q744.2.2.2.1 q744.2.2.2.2.2.1 q744.2.2.2.2.2.2.1 q744.2.2.2.2.2.2.2 q744.2.1 a_74 a_75 l_76) (by decide) heq744 (Or.inl rfl) ?_
      refine xe_seg ok 2 (G := (fun K => K (57, xm_i57, xm_I57, 0, 0, 115, [(0, .ref 59), (1, .int (v1 + (1 : Int32))), (2, .int v2), (3, .int v3)], [], xw_R X t_thrown t_size t_at t_fault t_from s_57_24 t_text a_59 a_60 a_61 a_62 a_63 a_64 a_65 t_lines q744.2.2.2.2.1 q744.2.2.1 q744.2.2.2.1 q744.2.2.2.2.2.1 q744.2.2.2.2.2.2.1 q744.2.2.2.2.2.2.2 q744.2.1 a_74 a_75 l_76))) (fun K => rfl) ?_
      refine xe_k ?_
      refine xe_sub [true, true, false, false] (lv' := [(0, .ref 59), (1, .int (v1 + (1 : Int32)))]) rfl ?_
      have hz := hk115 t_at t_fault t_from q744.2.1 q744.2.2.1 t_lines q744.2.2.2.1 q744.2.2.2.2.1 q744.2.2.2.2.2.1 t_size q744.2.2.2.2.2.2.1 t_thrown q744.2.2.2.2.2.2.2 (v1 + (1 : Int32)) _ h
      exact hz
set_option maxHeartbeats 400000 in
theorem xh_rf_read_57_115 {l : Launch} {g : xr_G} (ok : xr_OK xm_P) (a_59 a_60 a_61 a_62 a_63 a_64 a_65 a_74 a_75 : Nat → Int32) (l_76 : Nat → Int64) (s_57_24 : Int32) (X : Nat → xr_C) (t_text : (Nat → Int32)) (n : Nat) : ∀ (N : Nat) (t_at : Int32) (t_fault : Int32) (t_from : Int32) (t_items : (Nat → Int32)) (t_letters : (Nat → Int32)) (t_lines : (Nat → Int32)) (t_names : (Nat → Int32)) (t_numbers : (Nat → Int32)) (t_parts : (Nat → Int32)) (t_size : Int32) (t_sorts : (Nat → Int32)) (t_thrown : Int32) (t_values : (Nat → Int32)) (v1 : Int32) (r : (Int32 × Int32 × Int32 × Int32 × (Nat → Int32) × (Nat → Int32) × (Nat → Int32) × (Nat → Int32) × (Nat → Int32) × (Nat → Int32) × Int32 × (Nat → Int32) × Int32 × (Nat → Int32))), xf_rf_read_115 t_text n N t_at t_fault t_from t_items t_letters t_lines t_names t_numbers t_parts t_size t_sorts t_thrown t_values v1 = some r → xV xm_P l g (57, xm_i57, xm_I57, 0, 0, 115, [(0, .ref 59), (1, .int v1)], [], xw_R X t_thrown t_size t_at t_fault t_from s_57_24 t_text a_59 a_60 a_61 a_62 a_63 a_64 a_65 t_lines t_numbers t_letters t_names t_parts t_sorts t_values t_items a_74 a_75 l_76) (.inl (some (.int r.1)), xw_R X r.2.2.2.2.2.2.2.2.2.2.2.2.1 r.2.2.2.2.2.2.2.2.2.2.1 r.2.1 r.2.2.1 r.2.2.2.1 s_57_24 t_text a_59 a_60 a_61 a_62 a_63 a_64 a_65 r.2.2.2.2.2.2.1 r.2.2.2.2.2.2.2.2.1 r.2.2.2.2.2.1 r.2.2.2.2.2.2.2.1 r.2.2.2.2.2.2.2.2.2.1 r.2.2.2.2.2.2.2.2.2.2.2.1 r.2.2.2.2.2.2.2.2.2.2.2.2.2 r.2.2.2.2.1 a_74 a_75 l_76) := by
  intro N
  induction N with
  | zero => intro t_at t_fault t_from t_items t_letters t_lines t_names t_numbers t_parts t_size t_sorts t_thrown t_values v1 r h; cases h
  | succ N hk115 =>
    intro t_at t_fault t_from t_items t_letters t_lines t_names t_numbers t_parts t_size t_sorts t_thrown t_values v1 r h
    refine xe_seg ok 6 (G := (fun K => if xr_in ((1 : Int32)) 3 = true then K (57, xm_i57, xm_I57, 0, 0, 124, [(0, .ref 59), (1, .int v1)], [.int (t_lines ((1 : Int32)).toNatClampNeg), .int ((40 : Int32)), .int v1], xw_R X t_thrown t_size t_at t_fault t_from s_57_24 t_text a_59 a_60 a_61 a_62 a_63 a_64 a_65 t_lines t_numbers t_letters t_names t_parts t_sorts t_values t_items a_74 a_75 l_76) else none)) (fun K => rfl) ?_
    refine xe_pos (by decide) (xe_k ?_)
    refine xe_seg ok 2 (G := (fun K => if v1 < (((40 : Int32)) + (t_lines ((1 : Int32)).toNatClampNeg)) then K (57, xm_i57, xm_I57, 0, 0, 128, [(0, .ref 59), (1, .int v1)], [], xw_R X t_thrown t_size t_at t_fault t_from s_57_24 t_text a_59 a_60 a_61 a_62 a_63 a_64 a_65 t_lines t_numbers t_letters t_names t_parts t_sorts t_values t_items a_74 a_75 l_76) else K (57, xm_i57, xm_I57, 0, 0, 187, [(0, .ref 59), (1, .int v1)], [], xw_R X t_thrown t_size t_at t_fault t_from s_57_24 t_text a_59 a_60 a_61 a_62 a_63 a_64 a_65 t_lines t_numbers t_letters t_names t_parts t_sorts t_values t_items a_74 a_75 l_76))) (fun K => rfl) ?_
    rcases xb_if h with ⟨hc723, h⟩ | ⟨hc723, h⟩
    · refine xe_pos hc723 (xe_k ?_)
      refine xe_seg ok 4 (G := (fun K => K (57, xm_i57, xm_I57, 0, 0, 133, [(0, .ref 59), (1, .int v1), (2, .int ((0 : Int32))), (3, .int ((40 : Int32)))], [], xw_R X t_thrown t_size t_at t_fault t_from s_57_24 t_text a_59 a_60 a_61 a_62 a_63 a_64 a_65 t_lines t_numbers t_letters t_names t_parts t_sorts t_values t_items a_74 a_75 l_76))) (fun K => rfl) ?_
      refine xe_k ?_
      refine xe_sub [true, true, true, true] (lv' := [(0, .ref 59), (1, .int v1), (2, .int ((0 : Int32))), (3, .int ((40 : Int32)))]) rfl ?_
      have hz := xh_rf_read_57_133 (l := l) (g := g) ok a_59 a_60 a_61 a_62 a_63 a_64 a_65 a_74 a_75 l_76 s_57_24 X t_text hk115 n n t_at t_fault t_from t_items t_letters t_lines t_names t_numbers t_parts t_size t_sorts t_thrown t_values v1 ((0 : Int32)) ((40 : Int32)) _ h
      exact hz
    · refine xe_neg hc723 (xe_k ?_)
      refine xe_seg ok 7 (G := (fun K => if xr_in ((0 : Int32)) 3 = true then K (57, xm_i57, xm_I57, 0, 0, 198, [(0, .ref 59), (1, .int v1)], [.int (t_lines ((0 : Int32)).toNatClampNeg)], xw_R X t_thrown ((0 : Int32)) t_at t_fault t_from s_57_24 t_text a_59 a_60 a_61 a_62 a_63 a_64 a_65 t_lines t_numbers t_letters t_names t_parts t_sorts t_values t_items a_74 a_75 l_76) else none)) (fun K => rfl) ?_
      refine xe_pos (by decide) (xe_k ?_)
      obtain rfl := Option.some.inj h
      refine xe_seg ok 1 (G := (fun _ => some (.inl (some (.int (t_lines ((0 : Int32)).toNatClampNeg))), xw_R X t_thrown ((0 : Int32)) t_at t_fault t_from s_57_24 t_text a_59 a_60 a_61 a_62 a_63 a_64 a_65 t_lines t_numbers t_letters t_names t_parts t_sorts t_values t_items a_74 a_75 l_76))) (fun K => rfl) ?_
      exact xe_ret
set_option maxHeartbeats 400000 in
theorem xh_rf_read_57_62 {l : Launch} {g : xr_G} (ok : xr_OK xm_P) (a_59 a_60 a_61 a_62 a_63 a_64 a_65 a_74 a_75 : Nat → Int32) (l_76 : Nat → Int64) (s_57_24 : Int32) (X : Nat → xr_C) (t_text : (Nat → Int32)) (n : Nat) : ∀ (N : Nat) (t_at : Int32) (t_fault : Int32) (t_from : Int32) (t_items : (Nat → Int32)) (t_letters : (Nat → Int32)) (t_lines : (Nat → Int32)) (t_names : (Nat → Int32)) (t_numbers : (Nat → Int32)) (t_parts : (Nat → Int32)) (t_size : Int32) (t_sorts : (Nat → Int32)) (t_thrown : Int32) (t_values : (Nat → Int32)) (v1 : Int32) (r : (Int32 × Int32 × Int32 × Int32 × (Nat → Int32) × (Nat → Int32) × (Nat → Int32) × (Nat → Int32) × (Nat → Int32) × (Nat → Int32) × Int32 × (Nat → Int32) × Int32 × (Nat → Int32))), xf_rf_read_62 t_text n N t_at t_fault t_from t_items t_letters t_lines t_names t_numbers t_parts t_size t_sorts t_thrown t_values v1 = some r → xV xm_P l g (57, xm_i57, xm_I57, 0, 0, 62, [(0, .ref 59), (1, .int v1)], [], xw_R X t_thrown t_size t_at t_fault t_from s_57_24 t_text a_59 a_60 a_61 a_62 a_63 a_64 a_65 t_lines t_numbers t_letters t_names t_parts t_sorts t_values t_items a_74 a_75 l_76) (.inl (some (.int r.1)), xw_R X r.2.2.2.2.2.2.2.2.2.2.2.2.1 r.2.2.2.2.2.2.2.2.2.2.1 r.2.1 r.2.2.1 r.2.2.2.1 s_57_24 t_text a_59 a_60 a_61 a_62 a_63 a_64 a_65 r.2.2.2.2.2.2.1 r.2.2.2.2.2.2.2.2.1 r.2.2.2.2.2.1 r.2.2.2.2.2.2.2.1 r.2.2.2.2.2.2.2.2.2.1 r.2.2.2.2.2.2.2.2.2.2.2.1 r.2.2.2.2.2.2.2.2.2.2.2.2.2 r.2.2.2.2.1 a_74 a_75 l_76) := by
  intro N
  induction N with
  | zero => intro t_at t_fault t_from t_items t_letters t_lines t_names t_numbers t_parts t_size t_sorts t_thrown t_values v1 r h; cases h
  | succ N hk62 =>
    intro t_at t_fault t_from t_items t_letters t_lines t_names t_numbers t_parts t_size t_sorts t_thrown t_values v1 r h
    refine xe_seg ok 6 (G := (fun K => if xr_in ((1 : Int32)) 3 = true then K (57, xm_i57, xm_I57, 0, 0, 71, [(0, .ref 59), (1, .int v1)], [.int (t_lines ((1 : Int32)).toNatClampNeg), .int ((40 : Int32)), .int v1], xw_R X t_thrown t_size t_at t_fault t_from s_57_24 t_text a_59 a_60 a_61 a_62 a_63 a_64 a_65 t_lines t_numbers t_letters t_names t_parts t_sorts t_values t_items a_74 a_75 l_76) else none)) (fun K => rfl) ?_
    refine xe_pos (by decide) (xe_k ?_)
    refine xe_seg ok 2 (G := (fun K => if v1 < (((40 : Int32)) + (t_lines ((1 : Int32)).toNatClampNeg)) then K (57, xm_i57, xm_I57, 0, 0, 75, [(0, .ref 59), (1, .int v1)], [], xw_R X t_thrown t_size t_at t_fault t_from s_57_24 t_text a_59 a_60 a_61 a_62 a_63 a_64 a_65 t_lines t_numbers t_letters t_names t_parts t_sorts t_values t_items a_74 a_75 l_76) else K (57, xm_i57, xm_I57, 0, 0, 100, [(0, .ref 59), (1, .int v1)], [], xw_R X t_thrown t_size t_at t_fault t_from s_57_24 t_text a_59 a_60 a_61 a_62 a_63 a_64 a_65 t_lines t_numbers t_letters t_names t_parts t_sorts t_values t_items a_74 a_75 l_76))) (fun K => rfl) ?_
    rcases xb_if h with ⟨hc698, h⟩ | ⟨hc698, h⟩
    · refine xe_pos hc698 (xe_k ?_)
      refine xe_seg ok 3 (G := (fun K => xr_back K 57 xm_i57 xm_I57 0 0 77 [(0, .ref 59), (1, .int v1)] [] 78 true (K (55, xm_i55, xm_I55, 0, 0, 0, [(0, .ref 59), (1, .int v1)], [], xw_R X t_thrown t_size t_at t_fault t_from s_57_24 t_text a_59 a_60 a_61 a_62 a_63 a_64 a_65 t_lines t_numbers t_letters t_names t_parts t_sorts t_values t_items a_74 a_75 l_76)))) (fun K => rfl) ?_
      obtain ⟨q720, hq720, h⟩ := Option.bind_eq_some_iff.mp h
      have heq720 := xh_rf_isMissing_57 (l := l) (g := g) ok t_text a_59 a_60 a_61 a_62 a_63 a_64 a_65 t_letters t_names a_74 a_75 l_76 t_thrown t_size t_at t_fault t_from s_57_24 X t_items t_lines t_numbers t_parts t_sorts t_values n v1 _ hq720
      refine xe_call1 (ws' := xw_R X t_thrown t_size t_at t_fault t_from s_57_24 t_text a_59 a_60 a_61 a_62 a_63 a_64 a_65 t_lines t_numbers t_letters t_names t_parts t_sorts t_values t_items a_74 a_75 l_76) (by decide) heq720 (Or.inl rfl) ?_
      refine xe_seg ok 1 (G := (fun K => if q720 = (0 : Int32) then K (57, xm_i57, xm_I57, 0, 0, 94, [(0, .ref 59), (1, .int v1)], [], xw_R X t_thrown t_size t_at t_fault t_from s_57_24 t_text a_59 a_60 a_61 a_62 a_63 a_64 a_65 t_lines t_numbers t_letters t_names t_parts t_sorts t_values t_items a_74 a_75 l_76) else K (57, xm_i57, xm_I57, 0, 0, 83, [(0, .ref 59), (1, .int v1)], [], xw_R X t_thrown t_size t_at t_fault t_from s_57_24 t_text a_59 a_60 a_61 a_62 a_63 a_64 a_65 t_lines t_numbers t_letters t_names t_parts t_sorts t_values t_items a_74 a_75 l_76))) (fun K => rfl) ?_
      rcases xb_if h with ⟨hc721, h⟩ | ⟨hc721, h⟩
      · refine xe_pos hc721 (xe_k ?_)
        refine xe_seg ok 2 (G := (fun K => K (57, xm_i57, xm_I57, 0, 0, 62, [(0, .ref 59), (1, .int (v1 + (1 : Int32)))], [], xw_R X t_thrown t_size t_at t_fault t_from s_57_24 t_text a_59 a_60 a_61 a_62 a_63 a_64 a_65 t_lines t_numbers t_letters t_names t_parts t_sorts t_values t_items a_74 a_75 l_76))) (fun K => rfl) ?_
        refine xe_k ?_
        refine xe_sub [true, true] (lv' := [(0, .ref 59), (1, .int (v1 + (1 : Int32)))]) rfl ?_
        have hz := hk62 t_at t_fault t_from t_items t_letters t_lines t_names t_numbers t_parts t_size t_sorts t_thrown t_values (v1 + (1 : Int32)) _ h
        exact hz
      · refine xe_neg hc721 (xe_k ?_)
        refine xe_seg ok 5 (G := (fun K => if xr_in v1 120 = true then K (57, xm_i57, xm_I57, 0, 0, 92, [(0, .ref 59), (1, .int v1)], [.int (t_numbers v1.toNatClampNeg), .int ((-10000 : Int32))], xw_R X t_thrown t_size t_at t_fault t_from s_57_24 t_text a_59 a_60 a_61 a_62 a_63 a_64 a_65 t_lines t_numbers t_letters t_names t_parts t_sorts t_values t_items a_74 a_75 l_76) else none)) (fun K => rfl) ?_
        obtain ⟨hg722, h⟩ := xn_if h
        refine xe_pos hg722 (xe_k ?_)
        obtain rfl := Option.some.inj h
        refine xe_seg ok 2 (G := (fun _ => some (.inl (some (.int (((-10000 : Int32)) - (t_numbers v1.toNatClampNeg)))), xw_R X t_thrown t_size t_at t_fault t_from s_57_24 t_text a_59 a_60 a_61 a_62 a_63 a_64 a_65 t_lines t_numbers t_letters t_names t_parts t_sorts t_values t_items a_74 a_75 l_76))) (fun K => rfl) ?_
        exact xe_ret
    · refine xe_neg hc698 (xe_k ?_)
      refine xe_seg ok 7 (G := (fun K => if xr_in ((1 : Int32)) 3 = true then K (57, xm_i57, xm_I57, 0, 0, 111, [(0, .ref 59), (1, .int v1)], [.int (t_lines ((1 : Int32)).toNatClampNeg), .int ((0 : Int32)), .ref 68], xw_R X t_thrown t_size t_at t_fault t_from s_57_24 t_text a_59 a_60 a_61 a_62 a_63 a_64 a_65 t_lines t_numbers t_letters t_names t_parts t_sorts t_values t_items a_74 a_75 l_76) else none)) (fun K => rfl) ?_
      refine xe_pos (by decide) (xe_k ?_)
      refine xe_seg ok 1 (G := (fun K => if xr_in ((0 : Int32)) 3 = true then K (57, xm_i57, xm_I57, 0, 0, 112, [(0, .ref 59), (1, .int v1)], [], xw_R X t_thrown t_size t_at t_fault t_from s_57_24 t_text a_59 a_60 a_61 a_62 a_63 a_64 a_65 (upd t_lines ((0 : Int32)).toNatClampNeg ((t_lines ((1 : Int32)).toNatClampNeg))) t_numbers t_letters t_names t_parts t_sorts t_values t_items a_74 a_75 l_76) else none)) (fun K => rfl) ?_
      refine xe_pos (by decide) (xe_k ?_)
      refine xe_seg ok 2 (G := (fun K => K (57, xm_i57, xm_I57, 0, 0, 115, [(0, .ref 59), (1, .int ((40 : Int32)))], [], xw_R X t_thrown t_size t_at t_fault t_from s_57_24 t_text a_59 a_60 a_61 a_62 a_63 a_64 a_65 (upd t_lines ((0 : Int32)).toNatClampNeg ((t_lines ((1 : Int32)).toNatClampNeg))) t_numbers t_letters t_names t_parts t_sorts t_values t_items a_74 a_75 l_76))) (fun K => rfl) ?_
      refine xe_k ?_
      refine xe_sub [true, true] (lv' := [(0, .ref 59), (1, .int ((40 : Int32)))]) rfl ?_
      have hz := xh_rf_read_57_115 (l := l) (g := g) ok a_59 a_60 a_61 a_62 a_63 a_64 a_65 a_74 a_75 l_76 s_57_24 X t_text n n t_at t_fault t_from t_items t_letters (upd t_lines ((0 : Int32)).toNatClampNeg ((t_lines ((1 : Int32)).toNatClampNeg))) t_names t_numbers t_parts t_size t_sorts t_thrown t_values ((40 : Int32)) _ h
      exact hz
set_option maxHeartbeats 400000 in
theorem xh_rf_read_57_44 {l : Launch} {g : xr_G} (ok : xr_OK xm_P) (a_59 a_60 a_61 a_62 a_63 a_64 a_65 a_74 a_75 : Nat → Int32) (l_76 : Nat → Int64) (s_57_24 : Int32) (X : Nat → xr_C) (t_text : (Nat → Int32)) (n : Nat) : ∀ (t_at : Int32) (t_fault : Int32) (t_from : Int32) (t_items : (Nat → Int32)) (t_letters : (Nat → Int32)) (t_lines : (Nat → Int32)) (t_names : (Nat → Int32)) (t_numbers : (Nat → Int32)) (t_parts : (Nat → Int32)) (t_size : Int32) (t_sorts : (Nat → Int32)) (t_thrown : Int32) (t_values : (Nat → Int32)) (r : (Int32 × Int32 × Int32 × Int32 × (Nat → Int32) × (Nat → Int32) × (Nat → Int32) × (Nat → Int32) × (Nat → Int32) × (Nat → Int32) × Int32 × (Nat → Int32) × Int32 × (Nat → Int32))), xf_rf_read_44 t_text n t_at t_fault t_from t_items t_letters t_lines t_names t_numbers t_parts t_size t_sorts t_thrown t_values = some r → xV xm_P l g (57, xm_i57, xm_I57, 0, 0, 44, [(0, .ref 59)], [], xw_R X t_thrown t_size t_at t_fault t_from s_57_24 t_text a_59 a_60 a_61 a_62 a_63 a_64 a_65 t_lines t_numbers t_letters t_names t_parts t_sorts t_values t_items a_74 a_75 l_76) (.inl (some (.int r.1)), xw_R X r.2.2.2.2.2.2.2.2.2.2.2.2.1 r.2.2.2.2.2.2.2.2.2.2.1 r.2.1 r.2.2.1 r.2.2.2.1 s_57_24 t_text a_59 a_60 a_61 a_62 a_63 a_64 a_65 r.2.2.2.2.2.2.1 r.2.2.2.2.2.2.2.2.1 r.2.2.2.2.2.1 r.2.2.2.2.2.2.2.1 r.2.2.2.2.2.2.2.2.2.1 r.2.2.2.2.2.2.2.2.2.2.2.1 r.2.2.2.2.2.2.2.2.2.2.2.2.2 r.2.2.2.2.1 a_74 a_75 l_76) := by
  intro t_at t_fault t_from t_items t_letters t_lines t_names t_numbers t_parts t_size t_sorts t_thrown t_values r h
  unfold xf_rf_read_44 at h
  refine xe_seg ok 4 (G := (fun K => if t_fault = ((-1 : Int32)) then K (57, xm_i57, xm_I57, 0, 0, 59, [(0, .ref 59)], [], xw_R X t_thrown t_size t_at t_fault t_from s_57_24 t_text a_59 a_60 a_61 a_62 a_63 a_64 a_65 t_lines t_numbers t_letters t_names t_parts t_sorts t_values t_items a_74 a_75 l_76) else K (57, xm_i57, xm_I57, 0, 0, 52, [(0, .ref 59)], [], xw_R X t_thrown t_size t_at t_fault t_from s_57_24 t_text a_59 a_60 a_61 a_62 a_63 a_64 a_65 t_lines t_numbers t_letters t_names t_parts t_sorts t_values t_items a_74 a_75 l_76))) (fun K => rfl) ?_
  rcases xb_if h with ⟨hc697, h⟩ | ⟨hc697, h⟩
  · refine xe_pos hc697 (xe_k ?_)
    refine xe_seg ok 2 (G := (fun K => K (57, xm_i57, xm_I57, 0, 0, 62, [(0, .ref 59), (1, .int ((40 : Int32)))], [], xw_R X t_thrown t_size t_at t_fault t_from s_57_24 t_text a_59 a_60 a_61 a_62 a_63 a_64 a_65 t_lines t_numbers t_letters t_names t_parts t_sorts t_values t_items a_74 a_75 l_76))) (fun K => rfl) ?_
    refine xe_k ?_
    refine xe_sub [true, true] (lv' := [(0, .ref 59), (1, .int ((40 : Int32)))]) rfl ?_
    have hz := xh_rf_read_57_62 (l := l) (g := g) ok a_59 a_60 a_61 a_62 a_63 a_64 a_65 a_74 a_75 l_76 s_57_24 X t_text n n t_at t_fault t_from t_items t_letters t_lines t_names t_numbers t_parts t_size t_sorts t_thrown t_values ((40 : Int32)) _ h
    exact hz
  · refine xe_neg hc697 (xe_k ?_)
    obtain rfl := Option.some.inj h
    refine xe_seg ok 5 (G := (fun _ => some (.inl (some (.int (((-1 : Int32)) - t_fault))), xw_R X t_thrown t_size t_at t_fault t_from s_57_24 t_text a_59 a_60 a_61 a_62 a_63 a_64 a_65 t_lines t_numbers t_letters t_names t_parts t_sorts t_values t_items a_74 a_75 l_76))) (fun K => rfl) ?_
    exact xe_ret
set_option maxHeartbeats 400000 in
theorem xh_rf_oneLine_57_20 {l : Launch} {g : xr_G} (ok : xr_OK xm_P) (a_59 a_60 a_61 a_62 a_63 a_64 a_65 a_74 a_75 : Nat → Int32) (l_76 : Nat → Int64) (s_57_0 s_57_24 : Int32) (X : Nat → xr_C) (t_size : Int32) (t_text : (Nat → Int32)) (n : Nat) : ∀ (t_at : Int32) (t_fault : Int32) (t_from : Int32) (t_items : (Nat → Int32)) (t_letters : (Nat → Int32)) (t_lines : (Nat → Int32)) (t_names : (Nat → Int32)) (t_numbers : (Nat → Int32)) (t_parts : (Nat → Int32)) (t_sorts : (Nat → Int32)) (t_values : (Nat → Int32)) (r : (Unit × Int32 × Int32 × Int32 × (Nat → Int32) × (Nat → Int32) × (Nat → Int32) × (Nat → Int32) × (Nat → Int32) × (Nat → Int32) × (Nat → Int32) × (Nat → Int32))), xf_rf_oneLine_20 t_size t_text n t_at t_fault t_from t_items t_letters t_lines t_names t_numbers t_parts t_sorts t_values = some r → xV xm_P l g (54, xm_i54, xm_I54, 0, 0, 20, [(0, .ref 59)], [], xw_R X s_57_0 t_size t_at t_fault t_from s_57_24 t_text a_59 a_60 a_61 a_62 a_63 a_64 a_65 t_lines t_numbers t_letters t_names t_parts t_sorts t_values t_items a_74 a_75 l_76) (.inl none, xw_R X s_57_0 t_size r.2.1 r.2.2.1 r.2.2.2.1 s_57_24 t_text a_59 a_60 a_61 a_62 a_63 a_64 a_65 r.2.2.2.2.2.2.1 r.2.2.2.2.2.2.2.2.1 r.2.2.2.2.2.1 r.2.2.2.2.2.2.2.1 r.2.2.2.2.2.2.2.2.2.1 r.2.2.2.2.2.2.2.2.2.2.1 r.2.2.2.2.2.2.2.2.2.2.2 r.2.2.2.2.1 a_74 a_75 l_76) := by
  intro t_at t_fault t_from t_items t_letters t_lines t_names t_numbers t_parts t_sorts t_values r h
  unfold xf_rf_oneLine_20 at h
  refine xe_seg ok 4 (G := (fun K => xr_back K 54 xm_i54 xm_I54 0 0 25 [(0, .ref 59)] [] 78 true (K (39, xm_i39, xm_I39, 0, 0, 0, [(0, .ref 59), (1, .int t_at)], [], xw_R X s_57_0 t_size t_at t_fault t_from s_57_24 t_text a_59 a_60 a_61 a_62 a_63 a_64 a_65 t_lines t_numbers t_letters t_names t_parts t_sorts t_values t_items a_74 a_75 l_76)))) (fun K => rfl) ?_
  obtain ⟨q748, hq748, h⟩ := Option.bind_eq_some_iff.mp h
  have heq748 := xh_rf_wrongAt_57 (l := l) (g := g) ok t_text a_59 a_60 a_61 a_62 a_63 a_64 a_65 t_lines t_numbers t_letters t_names t_parts t_sorts t_values t_items a_74 a_75 l_76 s_57_0 t_size t_at t_from s_57_24 X t_fault t_at _ hq748
  refine xe_call0 (ws' := xw_R X s_57_0 t_size t_at q748.2 t_from s_57_24 t_text a_59 a_60 a_61 a_62 a_63 a_64 a_65 t_lines t_numbers t_letters t_names t_parts t_sorts t_values t_items a_74 a_75 l_76) (by decide) heq748 (Or.inl rfl) ?_
  obtain rfl := Option.some.inj h
  refine xe_seg ok 1 (G := (fun _ => some (.inl none, xw_R X s_57_0 t_size t_at q748.2 t_from s_57_24 t_text a_59 a_60 a_61 a_62 a_63 a_64 a_65 t_lines t_numbers t_letters t_names t_parts t_sorts t_values t_items a_74 a_75 l_76))) (fun K => rfl) ?_
  exact xe_ret
set_option maxHeartbeats 400000 in
theorem xh_rf_isDigit_17 {l : Launch} {g : xr_G} (ok : xr_OK xm_P) (a_58 a_59 a_60 a_61 a_62 a_63 a_64 a_65 a_66 a_67 a_68 a_69 a_70 a_71 a_72 a_73 a_74 a_75 : Nat → Int32) (l_76 : Nat → Int64) (s_57_0 s_57_1 s_57_18 s_57_19 s_57_20 s_57_24 : Int32) (X : Nat → xr_C) : ∀ (s0 : Int32) (r : (Int32)), xf_rf_isDigit_17  s0 = some r → xV xm_P l g (37, xm_i37, xm_I37, 0, 0, 17, [], [.int s0], xw_R X s_57_0 s_57_1 s_57_18 s_57_19 s_57_20 s_57_24 a_58 a_59 a_60 a_61 a_62 a_63 a_64 a_65 a_66 a_67 a_68 a_69 a_70 a_71 a_72 a_73 a_74 a_75 l_76) (.inl (some (.int r)), xw_R X s_57_0 s_57_1 s_57_18 s_57_19 s_57_20 s_57_24 a_58 a_59 a_60 a_61 a_62 a_63 a_64 a_65 a_66 a_67 a_68 a_69 a_70 a_71 a_72 a_73 a_74 a_75 l_76) := by
  intro s0 r h
  unfold xf_rf_isDigit_17 at h
  refine xe_seg ok 1 (G := (fun _ => if fits .boolean (.int s0) = true then some (.inl (some (.int s0)), xw_R X s_57_0 s_57_1 s_57_18 s_57_19 s_57_20 s_57_24 a_58 a_59 a_60 a_61 a_62 a_63 a_64 a_65 a_66 a_67 a_68 a_69 a_70 a_71 a_72 a_73 a_74 a_75 l_76) else none)) (fun K => rfl) ?_
  obtain ⟨hg754, h⟩ := xn_if h
  obtain rfl := Option.some.inj h
  exact xe_pos (A := fun _ => some (.inl (some (.int s0)), xw_R X s_57_0 s_57_1 s_57_18 s_57_19 s_57_20 s_57_24 a_58 a_59 a_60 a_61 a_62 a_63 a_64 a_65 a_66 a_67 a_68 a_69 a_70 a_71 a_72 a_73 a_74 a_75 l_76)) (B := fun _ => none) hg754 xe_ret
set_option maxHeartbeats 400000 in
theorem xh_rf_isDigit_16 {l : Launch} {g : xr_G} (ok : xr_OK xm_P) (a_58 a_59 a_60 a_61 a_62 a_63 a_64 a_65 a_66 a_67 a_68 a_69 a_70 a_71 a_72 a_73 a_74 a_75 : Nat → Int32) (l_76 : Nat → Int64) (s_57_0 s_57_1 s_57_18 s_57_19 s_57_20 s_57_24 : Int32) (X : Nat → xr_C) : ∀  (r : (Int32)), xf_rf_isDigit_16   = some r → xV xm_P l g (37, xm_i37, xm_I37, 0, 0, 16, [], [], xw_R X s_57_0 s_57_1 s_57_18 s_57_19 s_57_20 s_57_24 a_58 a_59 a_60 a_61 a_62 a_63 a_64 a_65 a_66 a_67 a_68 a_69 a_70 a_71 a_72 a_73 a_74 a_75 l_76) (.inl (some (.int r)), xw_R X s_57_0 s_57_1 s_57_18 s_57_19 s_57_20 s_57_24 a_58 a_59 a_60 a_61 a_62 a_63 a_64 a_65 a_66 a_67 a_68 a_69 a_70 a_71 a_72 a_73 a_74 a_75 l_76) := by
  intro  r h
  unfold xf_rf_isDigit_16 at h
  refine xe_seg ok 1 (G := (fun K => K (37, xm_i37, xm_I37, 0, 0, 17, [], [.int ((0 : Int32))], xw_R X s_57_0 s_57_1 s_57_18 s_57_19 s_57_20 s_57_24 a_58 a_59 a_60 a_61 a_62 a_63 a_64 a_65 a_66 a_67 a_68 a_69 a_70 a_71 a_72 a_73 a_74 a_75 l_76))) (fun K => rfl) ?_
  refine xe_k ?_
  refine xe_sub [] (lv' := []) rfl ?_
  have hz := xh_rf_isDigit_17 (l := l) (g := g) ok a_58 a_59 a_60 a_61 a_62 a_63 a_64 a_65 a_66 a_67 a_68 a_69 a_70 a_71 a_72 a_73 a_74 a_75 l_76 s_57_0 s_57_1 s_57_18 s_57_19 s_57_20 s_57_24 X ((0 : Int32)) _ h
  exact hz
set_option maxHeartbeats 400000 in
theorem xh_rf_isDigit {l : Launch} {g : xr_G} (ok : xr_OK xm_P) (a_58 a_59 a_60 a_61 a_62 a_63 a_64 a_65 a_66 a_67 a_68 a_69 a_70 a_71 a_72 a_73 a_74 a_75 : Nat → Int32) (l_76 : Nat → Int64) (s_57_0 s_57_1 s_57_18 s_57_19 s_57_20 s_57_24 : Int32) (X : Nat → xr_C) : ∀ (a1 : Int32) (r : (Int32)), xf_rf_isDigit  a1 = some r → xV xm_P l g (37, xm_i37, xm_I37, 0, 0, 0, [(0, .int a1)], [], xw_R X s_57_0 s_57_1 s_57_18 s_57_19 s_57_20 s_57_24 a_58 a_59 a_60 a_61 a_62 a_63 a_64 a_65 a_66 a_67 a_68 a_69 a_70 a_71 a_72 a_73 a_74 a_75 l_76) (.inl (some (.int r)), xw_R X s_57_0 s_57_1 s_57_18 s_57_19 s_57_20 s_57_24 a_58 a_59 a_60 a_61 a_62 a_63 a_64 a_65 a_66 a_67 a_68 a_69 a_70 a_71 a_72 a_73 a_74 a_75 l_76) := by
  intro a1 r h
  unfold xf_rf_isDigit at h
  refine xe_seg ok 3 (G := (fun K => if a1 < ((48 : Int32)) then K (37, xm_i37, xm_I37, 0, 0, 16, [(0, .int a1)], [], xw_R X s_57_0 s_57_1 s_57_18 s_57_19 s_57_20 s_57_24 a_58 a_59 a_60 a_61 a_62 a_63 a_64 a_65 a_66 a_67 a_68 a_69 a_70 a_71 a_72 a_73 a_74 a_75 l_76) else K (37, xm_i37, xm_I37, 0, 0, 6, [(0, .int a1)], [], xw_R X s_57_0 s_57_1 s_57_18 s_57_19 s_57_20 s_57_24 a_58 a_59 a_60 a_61 a_62 a_63 a_64 a_65 a_66 a_67 a_68 a_69 a_70 a_71 a_72 a_73 a_74 a_75 l_76))) (fun K => rfl) ?_
  rcases xb_if h with ⟨hc753, h⟩ | ⟨hc753, h⟩
  · refine xe_pos hc753 (xe_k ?_)
    refine xe_sub [false] (lv' := []) rfl ?_
    have hz := xh_rf_isDigit_16 (l := l) (g := g) ok a_58 a_59 a_60 a_61 a_62 a_63 a_64 a_65 a_66 a_67 a_68 a_69 a_70 a_71 a_72 a_73 a_74 a_75 l_76 s_57_0 s_57_1 s_57_18 s_57_19 s_57_20 s_57_24 X  _ h
    exact hz
  · refine xe_neg hc753 (xe_k ?_)
    refine xe_seg ok 3 (G := (fun K => if ((57 : Int32)) < a1 then K (37, xm_i37, xm_I37, 0, 0, 16, [(0, .int a1)], [], xw_R X s_57_0 s_57_1 s_57_18 s_57_19 s_57_20 s_57_24 a_58 a_59 a_60 a_61 a_62 a_63 a_64 a_65 a_66 a_67 a_68 a_69 a_70 a_71 a_72 a_73 a_74 a_75 l_76) else K (37, xm_i37, xm_I37, 0, 0, 12, [(0, .int a1)], [], xw_R X s_57_0 s_57_1 s_57_18 s_57_19 s_57_20 s_57_24 a_58 a_59 a_60 a_61 a_62 a_63 a_64 a_65 a_66 a_67 a_68 a_69 a_70 a_71 a_72 a_73 a_74 a_75 l_76))) (fun K => rfl) ?_
    rcases xb_if h with ⟨hc755, h⟩ | ⟨hc755, h⟩
    · refine xe_pos hc755 (xe_k ?_)
      refine xe_sub [false] (lv' := []) rfl ?_
      have hz := xh_rf_isDigit_16 (l := l) (g := g) ok a_58 a_59 a_60 a_61 a_62 a_63 a_64 a_65 a_66 a_67 a_68 a_69 a_70 a_71 a_72 a_73 a_74 a_75 l_76 s_57_0 s_57_1 s_57_18 s_57_19 s_57_20 s_57_24 X  _ h
      exact hz
    · refine xe_neg hc755 (xe_k ?_)
      refine xe_seg ok 2 (G := (fun K => K (37, xm_i37, xm_I37, 0, 0, 17, [(0, .int a1)], [.int ((1 : Int32))], xw_R X s_57_0 s_57_1 s_57_18 s_57_19 s_57_20 s_57_24 a_58 a_59 a_60 a_61 a_62 a_63 a_64 a_65 a_66 a_67 a_68 a_69 a_70 a_71 a_72 a_73 a_74 a_75 l_76))) (fun K => rfl) ?_
      refine xe_k ?_
      refine xe_sub [false] (lv' := []) rfl ?_
      have hz := xh_rf_isDigit_17 (l := l) (g := g) ok a_58 a_59 a_60 a_61 a_62 a_63 a_64 a_65 a_66 a_67 a_68 a_69 a_70 a_71 a_72 a_73 a_74 a_75 l_76 s_57_0 s_57_1 s_57_18 s_57_19 s_57_20 s_57_24 X ((1 : Int32)) _ h
      exact hz
set_option maxHeartbeats 400000 in
theorem xh_rf_digits_57_145 {l : Launch} {g : xr_G} (ok : xr_OK xm_P) (a_59 a_60 a_61 a_62 a_63 a_64 a_65 a_66 a_67 a_68 a_69 a_70 a_71 a_72 a_73 a_74 a_75 : Nat → Int32) (l_76 : Nat → Int64) (s_57_0 s_57_24 : Int32) (X : Nat → xr_C) (t_size : Int32) (t_text : (Nat → Int32)) (n : Nat) : ∀ (t_at : Int32) (t_fault : Int32) (t_from : Int32) (v3 : Int32) (r : (Int32 × Int32 × Int32 × Int32)), xf_rf_digits_145 t_size t_text n t_at t_fault t_from v3 = some r → xV xm_P l g (41, xm_i41, xm_I41, 0, 0, 145, [(3, .int v3)], [], xw_R X s_57_0 t_size t_at t_fault t_from s_57_24 t_text a_59 a_60 a_61 a_62 a_63 a_64 a_65 a_66 a_67 a_68 a_69 a_70 a_71 a_72 a_73 a_74 a_75 l_76) (.inl (some (.int r.1)), xw_R X s_57_0 t_size r.2.1 r.2.2.1 r.2.2.2 s_57_24 t_text a_59 a_60 a_61 a_62 a_63 a_64 a_65 a_66 a_67 a_68 a_69 a_70 a_71 a_72 a_73 a_74 a_75 l_76) := by
  intro t_at t_fault t_from v3 r h
  unfold xf_rf_digits_145 at h
  obtain rfl := Option.some.inj h
  refine xe_seg ok 2 (G := (fun _ => some (.inl (some (.int v3)), xw_R X s_57_0 t_size t_at t_fault t_from s_57_24 t_text a_59 a_60 a_61 a_62 a_63 a_64 a_65 a_66 a_67 a_68 a_69 a_70 a_71 a_72 a_73 a_74 a_75 l_76))) (fun K => rfl) ?_
  exact xe_ret
set_option maxHeartbeats 400000 in
theorem xh_rf_digits_57_142 {l : Launch} {g : xr_G} (ok : xr_OK xm_P) (a_59 a_60 a_61 a_62 a_63 a_64 a_65 a_66 a_67 a_68 a_69 a_70 a_71 a_72 a_73 a_74 a_75 : Nat → Int32) (l_76 : Nat → Int64) (s_57_0 s_57_24 : Int32) (X : Nat → xr_C) (t_size : Int32) (t_text : (Nat → Int32)) (n : Nat) : ∀ (t_at : Int32) (t_fault : Int32) (t_from : Int32) (v3 : Int32) (s1 : Int32) (r : (Int32 × Int32 × Int32 × Int32)), xf_rf_digits_142 t_size t_text n t_at t_fault t_from v3 s1 = some r → xV xm_P l g (41, xm_i41, xm_I41, 0, 0, 142, [(3, .int v3)], [.int s1, .ref 59], xw_R X s_57_0 t_size t_at t_fault t_from s_57_24 t_text a_59 a_60 a_61 a_62 a_63 a_64 a_65 a_66 a_67 a_68 a_69 a_70 a_71 a_72 a_73 a_74 a_75 l_76) (.inl (some (.int r.1)), xw_R X s_57_0 t_size r.2.1 r.2.2.1 r.2.2.2 s_57_24 t_text a_59 a_60 a_61 a_62 a_63 a_64 a_65 a_66 a_67 a_68 a_69 a_70 a_71 a_72 a_73 a_74 a_75 l_76) := by
  intro t_at t_fault t_from v3 s1 r h
  unfold xf_rf_digits_142 at h
  refine xe_seg ok 1 (G := (fun K => xr_back K 41 xm_i41 xm_I41 0 0 142 [(3, .int v3)] [] 78 true (K (39, xm_i39, xm_I39, 0, 0, 0, [(0, .ref 59), (1, .int s1)], [], xw_R X s_57_0 t_size t_at t_fault t_from s_57_24 t_text a_59 a_60 a_61 a_62 a_63 a_64 a_65 a_66 a_67 a_68 a_69 a_70 a_71 a_72 a_73 a_74 a_75 l_76)))) (fun K => rfl) ?_
  obtain ⟨q762, hq762, h⟩ := Option.bind_eq_some_iff.mp h
  have heq762 := xh_rf_wrongAt_57 (l := l) (g := g) ok t_text a_59 a_60 a_61 a_62 a_63 a_64 a_65 a_66 a_67 a_68 a_69 a_70 a_71 a_72 a_73 a_74 a_75 l_76 s_57_0 t_size t_at t_from s_57_24 X t_fault s1 _ hq762
  refine xe_call0 (ws' := xw_R X s_57_0 t_size t_at q762.2 t_from s_57_24 t_text a_59 a_60 a_61 a_62 a_63 a_64 a_65 a_66 a_67 a_68 a_69 a_70 a_71 a_72 a_73 a_74 a_75 l_76) (by decide) heq762 (Or.inl rfl) ?_
  refine xe_sub [true] (lv' := [(3, .int v3)]) rfl ?_
  have hz := xh_rf_digits_57_145 (l := l) (g := g) ok a_59 a_60 a_61 a_62 a_63 a_64 a_65 a_66 a_67 a_68 a_69 a_70 a_71 a_72 a_73 a_74 a_75 l_76 s_57_0 s_57_24 X t_size t_text n t_at q762.2 t_from v3 _ h
  exact hz
set_option maxHeartbeats 400000 in
theorem xh_rf_digits_57_115 {l : Launch} {g : xr_G} (ok : xr_OK xm_P) (a_59 a_60 a_61 a_62 a_63 a_64 a_65 a_66 a_67 a_68 a_69 a_70 a_71 a_72 a_73 a_74 a_75 : Nat → Int32) (l_76 : Nat → Int64) (s_57_0 s_57_24 : Int32) (X : Nat → xr_C) (t_size : Int32) (t_text : (Nat → Int32)) (n : Nat) : ∀ (t_at : Int32) (t_fault : Int32) (t_from : Int32) (v1 : Int32) (v2 : Int32) (v3 : Int32) (r : (Int32 × Int32 × Int32 × Int32)), xf_rf_digits_115 t_size t_text n t_at t_fault t_from v1 v2 v3 = some r → xV xm_P l g (41, xm_i41, xm_I41, 0, 0, 115, [(0, .ref 59), (1, .int v1), (2, .int v2), (3, .int v3)], [], xw_R X s_57_0 t_size t_at t_fault t_from s_57_24 t_text a_59 a_60 a_61 a_62 a_63 a_64 a_65 a_66 a_67 a_68 a_69 a_70 a_71 a_72 a_73 a_74 a_75 l_76) (.inl (some (.int r.1)), xw_R X s_57_0 t_size r.2.1 r.2.2.1 r.2.2.2 s_57_24 t_text a_59 a_60 a_61 a_62 a_63 a_64 a_65 a_66 a_67 a_68 a_69 a_70 a_71 a_72 a_73 a_74 a_75 l_76) := by
  intro t_at t_fault t_from v1 v2 v3 r h
  unfold xf_rf_digits_115 at h
  refine xe_seg ok 7 (G := (fun K => if v1 < (t_at - t_from) then K (41, xm_i41, xm_I41, 0, 0, 128, [(0, .ref 59), (1, .int v1), (2, .int v2), (3, .int v3)], [], xw_R X s_57_0 t_size t_at t_fault t_from s_57_24 t_text a_59 a_60 a_61 a_62 a_63 a_64 a_65 a_66 a_67 a_68 a_69 a_70 a_71 a_72 a_73 a_74 a_75 l_76) else K (41, xm_i41, xm_I41, 0, 0, 145, [(0, .ref 59), (1, .int v1), (2, .int v2), (3, .int v3)], [], xw_R X s_57_0 t_size t_at t_fault t_from s_57_24 t_text a_59 a_60 a_61 a_62 a_63 a_64 a_65 a_66 a_67 a_68 a_69 a_70 a_71 a_72 a_73 a_74 a_75 l_76))) (fun K => rfl) ?_
  rcases xb_if h with ⟨hc760, h⟩ | ⟨hc760, h⟩
  · refine xe_pos hc760 (xe_k ?_)
    refine xe_seg ok 4 (G := (fun K => if v2 = ((-1 : Int32)) then K (41, xm_i41, xm_I41, 0, 0, 134, [(0, .ref 59), (1, .int v1), (2, .int v2), (3, .int v3)], [.ref 59], xw_R X s_57_0 t_size t_at t_fault t_from s_57_24 t_text a_59 a_60 a_61 a_62 a_63 a_64 a_65 a_66 a_67 a_68 a_69 a_70 a_71 a_72 a_73 a_74 a_75 l_76) else K (41, xm_i41, xm_I41, 0, 0, 141, [(0, .ref 59), (1, .int v1), (2, .int v2), (3, .int v3)], [.ref 59], xw_R X s_57_0 t_size t_at t_fault t_from s_57_24 t_text a_59 a_60 a_61 a_62 a_63 a_64 a_65 a_66 a_67 a_68 a_69 a_70 a_71 a_72 a_73 a_74 a_75 l_76))) (fun K => rfl) ?_
    rcases xb_if h with ⟨hc761, h⟩ | ⟨hc761, h⟩
    · refine xe_pos hc761 (xe_k ?_)
      refine xe_seg ok 3 (G := (fun K => K (41, xm_i41, xm_I41, 0, 0, 142, [(0, .ref 59), (1, .int v1), (2, .int v2), (3, .int v3)], [.int t_from, .ref 59], xw_R X s_57_0 t_size t_at t_fault t_from s_57_24 t_text a_59 a_60 a_61 a_62 a_63 a_64 a_65 a_66 a_67 a_68 a_69 a_70 a_71 a_72 a_73 a_74 a_75 l_76))) (fun K => rfl) ?_
      refine xe_k ?_
      refine xe_sub [false, false, false, true] (lv' := [(3, .int v3)]) rfl ?_
      have hz := xh_rf_digits_57_142 (l := l) (g := g) ok a_59 a_60 a_61 a_62 a_63 a_64 a_65 a_66 a_67 a_68 a_69 a_70 a_71 a_72 a_73 a_74 a_75 l_76 s_57_0 s_57_24 X t_size t_text n t_at t_fault t_from v3 t_from _ h
      exact hz
    · refine xe_neg hc761 (xe_k ?_)
      refine xe_seg ok 1 (G := (fun K => K (41, xm_i41, xm_I41, 0, 0, 142, [(0, .ref 59), (1, .int v1), (2, .int v2), (3, .int v3)], [.int v2, .ref 59], xw_R X s_57_0 t_size t_at t_fault t_from s_57_24 t_text a_59 a_60 a_61 a_62 a_63 a_64 a_65 a_66 a_67 a_68 a_69 a_70 a_71 a_72 a_73 a_74 a_75 l_76))) (fun K => rfl) ?_
      refine xe_k ?_
      refine xe_sub [false, false, false, true] (lv' := [(3, .int v3)]) rfl ?_
      have hz := xh_rf_digits_57_142 (l := l) (g := g) ok a_59 a_60 a_61 a_62 a_63 a_64 a_65 a_66 a_67 a_68 a_69 a_70 a_71 a_72 a_73 a_74 a_75 l_76 s_57_0 s_57_24 X t_size t_text n t_at t_fault t_from v3 v2 _ h
      exact hz
  · refine xe_neg hc760 (xe_k ?_)
    refine xe_sub [false, false, false, true] (lv' := [(3, .int v3)]) rfl ?_
    have hz := xh_rf_digits_57_145 (l := l) (g := g) ok a_59 a_60 a_61 a_62 a_63 a_64 a_65 a_66 a_67 a_68 a_69 a_70 a_71 a_72 a_73 a_74 a_75 l_76 s_57_0 s_57_24 X t_size t_text n t_at t_fault t_from v3 _ h
    exact hz
set_option maxHeartbeats 400000 in
theorem xh_rf_digits_57_96 {l : Launch} {g : xr_G} (ok : xr_OK xm_P) (a_59 a_60 a_61 a_62 a_63 a_64 a_65 a_66 a_67 a_68 a_69 a_70 a_71 a_72 a_73 a_74 a_75 : Nat → Int32) (l_76 : Nat → Int64) (s_57_0 s_57_24 : Int32) (X : Nat → xr_C) (t_size : Int32) (t_text : (Nat → Int32)) (n : Nat) : ∀ (t_at : Int32) (t_fault : Int32) (t_from : Int32) (v1 : Int32) (v2 : Int32) (v3 : Int32) (r : (Int32 × Int32 × Int32 × Int32)), xf_rf_digits_96 t_size t_text n t_at t_fault t_from v1 v2 v3 = some r → xV xm_P l g (41, xm_i41, xm_I41, 0, 0, 96, [(0, .ref 59), (1, .int v1), (2, .int v2), (3, .int v3)], [], xw_R X s_57_0 t_size t_at t_fault t_from s_57_24 t_text a_59 a_60 a_61 a_62 a_63 a_64 a_65 a_66 a_67 a_68 a_69 a_70 a_71 a_72 a_73 a_74 a_75 l_76) (.inl (some (.int r.1)), xw_R X s_57_0 t_size r.2.1 r.2.2.1 r.2.2.2 s_57_24 t_text a_59 a_60 a_61 a_62 a_63 a_64 a_65 a_66 a_67 a_68 a_69 a_70 a_71 a_72 a_73 a_74 a_75 l_76) := by
  intro t_at t_fault t_from v1 v2 v3 r h
  unfold xf_rf_digits_96 at h
  refine xe_seg ok 5 (G := (fun K => if t_at = t_from then K (41, xm_i41, xm_I41, 0, 0, 107, [(0, .ref 59), (1, .int v1), (2, .int v2), (3, .int v3)], [], xw_R X s_57_0 t_size t_at t_fault t_from s_57_24 t_text a_59 a_60 a_61 a_62 a_63 a_64 a_65 a_66 a_67 a_68 a_69 a_70 a_71 a_72 a_73 a_74 a_75 l_76) else K (41, xm_i41, xm_I41, 0, 0, 115, [(0, .ref 59), (1, .int v1), (2, .int v2), (3, .int v3)], [], xw_R X s_57_0 t_size t_at t_fault t_from s_57_24 t_text a_59 a_60 a_61 a_62 a_63 a_64 a_65 a_66 a_67 a_68 a_69 a_70 a_71 a_72 a_73 a_74 a_75 l_76))) (fun K => rfl) ?_
  rcases xb_if h with ⟨hc758, h⟩ | ⟨hc758, h⟩
  · refine xe_pos hc758 (xe_k ?_)
    refine xe_seg ok 4 (G := (fun K => xr_back K 41 xm_i41 xm_I41 0 0 112 [(0, .ref 59), (1, .int v1), (2, .int v2), (3, .int v3)] [] 78 true (K (39, xm_i39, xm_I39, 0, 0, 0, [(0, .ref 59), (1, .int t_at)], [], xw_R X s_57_0 t_size t_at t_fault t_from s_57_24 t_text a_59 a_60 a_61 a_62 a_63 a_64 a_65 a_66 a_67 a_68 a_69 a_70 a_71 a_72 a_73 a_74 a_75 l_76)))) (fun K => rfl) ?_
    obtain ⟨q759, hq759, h⟩ := Option.bind_eq_some_iff.mp h
    have heq759 := xh_rf_wrongAt_57 (l := l) (g := g) ok t_text a_59 a_60 a_61 a_62 a_63 a_64 a_65 a_66 a_67 a_68 a_69 a_70 a_71 a_72 a_73 a_74 a_75 l_76 s_57_0 t_size t_at t_from s_57_24 X t_fault t_at _ hq759
    refine xe_call0 (ws' := xw_R X s_57_0 t_size t_at q759.2 t_from s_57_24 t_text a_59 a_60 a_61 a_62 a_63 a_64 a_65 a_66 a_67 a_68 a_69 a_70 a_71 a_72 a_73 a_74 a_75 l_76) (by decide) heq759 (Or.inl rfl) ?_
    refine xe_sub [true, true, true, true] (lv' := [(0, .ref 59), (1, .int v1), (2, .int v2), (3, .int v3)]) rfl ?_
    have hz := xh_rf_digits_57_115 (l := l) (g := g) ok a_59 a_60 a_61 a_62 a_63 a_64 a_65 a_66 a_67 a_68 a_69 a_70 a_71 a_72 a_73 a_74 a_75 l_76 s_57_0 s_57_24 X t_size t_text n t_at q759.2 t_from v1 v2 v3 _ h
    exact hz
  · refine xe_neg hc758 (xe_k ?_)
    refine xe_sub [true, true, true, true] (lv' := [(0, .ref 59), (1, .int v1), (2, .int v2), (3, .int v3)]) rfl ?_
    have hz := xh_rf_digits_57_115 (l := l) (g := g) ok a_59 a_60 a_61 a_62 a_63 a_64 a_65 a_66 a_67 a_68 a_69 a_70 a_71 a_72 a_73 a_74 a_75 l_76 s_57_0 s_57_24 X t_size t_text n t_at t_fault t_from v1 v2 v3 _ h
    exact hz
