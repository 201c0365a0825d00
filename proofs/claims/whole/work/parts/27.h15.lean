theorem xh_la_item_0_77 {l : Launch} {g : xr_G} (ok : xr_OK xm_P) (A : Nat → Nat → Int32) (L : Nat → Nat → Int64) (S : Nat → Nat → Int32) (p1_model_items : (Nat → Int32)) (p1_model_lines : Int32) (p1_model_number : (Nat → Int32)) (p1_model_order : (Nat → Int32)) (p1_model_size : (Nat → Int32)) (p1_model_sort : (Nat → Int32)) (p1_model_start : (Nat → Int32)) (p1_model_used : Int32) (p1_model_value : (Nat → Int32)) (n_p5 : Nat) (n : Nat) : ∀ (p5 : (Nat → Int64)) (a2 : Int32) (a3 : Int32) (a4 : Int32) (r : (Int32 × (Nat → Int64))), xf_la_item p1_model_items p1_model_lines p1_model_number p1_model_order p1_model_size p1_model_sort p1_model_start p1_model_used p1_model_value n_p5 n p5 a2 a3 a4 = some r → xV xm_P l g (177, xm_i177, xm_I177, 0, 0, 0, [(0, .ref 2), (1, .int a2), (2, .int a3), (3, .int a4), (4, .ref 79)], [], xw_W (xy_a (xy_a (xy_a (xy_a (xy_a (xy_a (xy_a A 23 p1_model_items) 16 p1_model_number) 19 p1_model_order) 18 p1_model_size) 20 p1_model_sort) 22 p1_model_start) 21 p1_model_value) (xy_l L 77 p5) (xy_s (xy_s S 15 1 p1_model_lines) 15 2 p1_model_used)) (.inl (some (.int r.1)), xw_W (xy_a (xy_a (xy_a (xy_a (xy_a (xy_a (xy_a A 23 p1_model_items) 16 p1_model_number) 19 p1_model_order) 18 p1_model_size) 20 p1_model_sort) 22 p1_model_start) 21 p1_model_value) (xy_l L 77 r.2) (xy_s (xy_s S 15 1 p1_model_lines) 15 2 p1_model_used)) := by
  intro p5 a2 a3 a4 r h
  unfold xf_la_item at h
  refine xe_seg ok 7 (G := (fun K => xr_back K 177 xm_i177 xm_I177 3 18 7 [(0, .ref 2), (1, .int a2), (2, .int a3), (3, .int a4), (4, .ref 79)] [.int ((0 : Int32)), .ref 79] 78 true (K (11, xm_i11, xm_I11, 0, 0, 0, [(0, .ref 2), (1, .int a2), (2, .int a3), (3, .int a4)], [], xw_W (xy_a (xy_a (xy_a (xy_a (xy_a (xy_a (xy_a A 23 p1_model_items) 16 p1_model_number) 19 p1_model_order) 18 p1_model_size) 20 p1_model_sort) 22 p1_model_start) 21 p1_model_value) (xy_l L 77 p5) (xy_s (xy_s S 15 1 p1_model_lines) 15 2 p1_model_used))))) (fun K => rfl) ?_
  obtain ⟨q1490, hq1490, h⟩ := Option.bind_eq_some_iff.mp h
  have heq1490 := xh_xt_item_0 (l := l) (g := g) ok (xy_a (xy_a (xy_a (xy_a (xy_a (xy_a (xy_a A 23 p1_model_items) 16 p1_model_number) 19 p1_model_order) 18 p1_model_size) 20 p1_model_sort) 22 p1_model_start) 21 p1_model_value) (xy_l L 77 p5) (xy_s (xy_s S 15 1 p1_model_lines) 15 2 p1_model_used) p1_model_items p1_model_lines p1_model_number p1_model_order p1_model_size p1_model_sort p1_model_start p1_model_used p1_model_value n a2 a3 a4 _ hq1490
  rcases xb_sum h with ⟨r1491, hr1491, h⟩ | ⟨r1491, hr1491, h⟩
  · rw [hr1491] at heq1490
    refine xe_call1 (ws' := xw_W (xy_a (xy_a (xy_a (xy_a (xy_a (xy_a (xy_a A 23 p1_model_items) 16 p1_model_number) 19 p1_model_order) 18 p1_model_size) 20 p1_model_sort) 22 p1_model_start) 21 p1_model_value) (xy_l L 77 p5) (xy_s (xy_s S 15 1 p1_model_lines) 15 2 p1_model_used)) (by decide) heq1490 (Or.inl rfl) ?_
    refine xe_seg ok 2 (G := (fun K => if xr_in ((0 : Int32)) 1 = true then K (177, xm_i177, xm_I177, 3, 18, 12, [(0, .ref 2), (1, .int a2), (2, .int a3), (3, .int a4), (4, .ref 79)], [], xw_W (xy_a (xy_a (xy_a (xy_a (xy_a (xy_a (xy_a A 23 p1_model_items) 16 p1_model_number) 19 p1_model_order) 18 p1_model_size) 20 p1_model_sort) 22 p1_model_start) 21 p1_model_value) (xy_l L 77 (vp_updL p5 ((0 : Int32)).toNatClampNeg r1491.toInt64)) (xy_s (xy_s S 15 1 p1_model_lines) 15 2 p1_model_used)) else none)) (fun K => rfl) ?_
    obtain ⟨hg1492, h⟩ := xn_if h
    refine xe_pos hg1492 (xe_k ?_)
    obtain rfl := Option.some.inj h
    refine xe_seg ok 3 (G := (fun _ => some (.inl (some (.int ((0 : Int32)))), xw_W (xy_a (xy_a (xy_a (xy_a (xy_a (xy_a (xy_a A 23 p1_model_items) 16 p1_model_number) 19 p1_model_order) 18 p1_model_size) 20 p1_model_sort) 22 p1_model_start) 21 p1_model_value) (xy_l L 77 (vp_updL p5 ((0 : Int32)).toNatClampNeg r1491.toInt64)) (xy_s (xy_s S 15 1 p1_model_lines) 15 2 p1_model_used)))) (fun K => rfl) ?_
    exact xe_ret
  · rw [hr1491] at heq1490
    rcases xb_if h with ⟨hc1493, h⟩ | ⟨hc1493, h⟩
    · subst hc1493
      refine xe_catch (ws' := xw_W (xy_a (xy_a (xy_a (xy_a (xy_a (xy_a (xy_a A 23 p1_model_items) 16 p1_model_number) 19 p1_model_order) 18 p1_model_size) 20 p1_model_sort) 22 p1_model_start) 21 p1_model_value) (xy_l L 77 p5) (xy_s (xy_s S 15 1 p1_model_lines) 15 2 p1_model_used)) (by decide) heq1490 (q' := (177, xm_i177, xm_I177, 3, 18, 17, [(0, .ref 2), (1, .int a2), (2, .int a3), (3, .int a4), (4, .ref 79)], [], xw_W (xy_a (xy_a (xy_a (xy_a (xy_a (xy_a (xy_a A 23 p1_model_items) 16 p1_model_number) 19 p1_model_order) 18 p1_model_size) 20 p1_model_sort) 22 p1_model_start) 21 p1_model_value) (xy_l L 77 p5) (xy_s (xy_s S 15 1 p1_model_lines) 15 2 p1_model_used))) (fun K => rfl) ?_
      obtain rfl := Option.some.inj h
      refine xe_seg ok 2 (G := (fun _ => some (.inl (some (.int ((1 : Int32)))), xw_W (xy_a (xy_a (xy_a (xy_a (xy_a (xy_a (xy_a A 23 p1_model_items) 16 p1_model_number) 19 p1_model_order) 18 p1_model_size) 20 p1_model_sort) 22 p1_model_start) 21 p1_model_value) (xy_l L 77 p5) (xy_s (xy_s S 15 1 p1_model_lines) 15 2 p1_model_used)))) (fun K => rfl) ?_
      exact xe_ret
    · cases h
theorem xh_gr_forgetGroups_42 {l : Launch} {g : xr_G} (ok : xr_OK xm_P) (A : Nat → Nat → Int32) (L : Nat → Nat → Int64) (S : Nat → Nat → Int32) : ∀ (t_grouped : Int32) (r : (Unit × Int32)), xf_gr_forgetGroups  t_grouped = some r → xV xm_P l g (92, xm_i92, xm_I92, 0, 0, 0, [(0, .ref 44)], [], xw_W A L (xy_s S 42 5 t_grouped)) (.inl none, xw_W A L (xy_s S 42 5 r.2)) := by
  intro t_grouped r h
  unfold xf_gr_forgetGroups at h
  obtain rfl := Option.some.inj h
  refine xe_seg ok 4 (G := (fun _ => some (.inl none, xw_W A L (xy_s S 42 5 ((0 : Int32)))))) (fun K => rfl) ?_
  exact xe_ret
theorem xh_xt_set_0_46 {l : Launch} {g : xr_G} (ok : xr_OK xm_P) (A : Nat → Nat → Int32) (L : Nat → Nat → Int64) (S : Nat → Nat → Int32) (t_model_lines : Int32) (t_model_number : (Nat → Int32)) (t_model_order : (Nat → Int32)) (t_model_size : (Nat → Int32)) (t_model_sort : (Nat → Int32)) (n : Nat) : ∀ (t_graph_grouped : Int32) (t_model_value : (Nat → Int32)) (v3 : Int32) (v4 : Int32) (s0 : Int32) (r : ((Int32 ⊕ String) × Int32 × (Nat → Int32))), xf_xt_set_46 t_model_lines t_model_number t_model_order t_model_size t_model_sort n t_graph_grouped t_model_value v3 v4 s0 = some r → xV xm_P l g (12, xm_i12, xm_I12, 3, 18, 46, [(0, .ref 2), (3, .int v3), (4, .int v4)], [.int s0], xw_W (xy_a (xy_a (xy_a (xy_a (xy_a A 16 t_model_number) 19 t_model_order) 18 t_model_size) 20 t_model_sort) 21 t_model_value) L (xy_s (xy_s S 42 5 t_graph_grouped) 15 1 t_model_lines)) (xo_i r.1, xw_W (xy_a (xy_a (xy_a (xy_a (xy_a A 16 t_model_number) 19 t_model_order) 18 t_model_size) 20 t_model_sort) 21 r.2.2) L (xy_s (xy_s S 42 5 r.2.1) 15 1 t_model_lines)) := by
  intro t_graph_grouped t_model_value v3 v4 s0 r h
  unfold xf_xt_set_46 at h
  refine xe_seg ok 1 (G := (fun K => xr_back K 12 xm_i12 xm_I12 4 24 46 [(0, .ref 2), (3, .int v3), (4, .int v4)] [] 78 true (K (21, xm_i21, xm_I21, 0, 0, 0, [(0, .int s0)], [], xw_W (xy_a (xy_a (xy_a (xy_a (xy_a A 16 t_model_number) 19 t_model_order) 18 t_model_size) 20 t_model_sort) 21 t_model_value) L (xy_s (xy_s S 42 5 t_graph_grouped) 15 1 t_model_lines))))) (fun K => rfl) ?_
  obtain ⟨q1501, hq1501, h⟩ := Option.bind_eq_some_iff.mp h
  have heq1501 := xh_xt_refuseUnless (l := l) (g := g) ok (xy_a (xy_a (xy_a (xy_a (xy_a A 16 t_model_number) 19 t_model_order) 18 t_model_size) 20 t_model_sort) 21 t_model_value) L (xy_s (xy_s S 42 5 t_graph_grouped) 15 1 t_model_lines) s0 _ hq1501
  rcases xb_sum h with ⟨r1502, hr1502, h⟩ | ⟨r1502, hr1502, h⟩
  · rw [hr1502] at heq1501
    refine xe_call0 (ws' := xw_W (xy_a (xy_a (xy_a (xy_a (xy_a A 16 t_model_number) 19 t_model_order) 18 t_model_size) 20 t_model_sort) 21 t_model_value) L (xy_s (xy_s S 42 5 t_graph_grouped) 15 1 t_model_lines)) (by decide) heq1501 (Or.inl rfl) ?_
    refine xe_seg ok 5 (G := (fun K => if xr_in v4 320 = true then K (12, xm_i12, xm_I12, 4, 24, 59, [(0, .ref 2), (3, .int v3), (4, .int v4)], [.int (t_model_value v4.toNatClampNeg)], xw_W (xy_a (xy_a (xy_a (xy_a (xy_a A 16 t_model_number) 19 t_model_order) 18 t_model_size) 20 t_model_sort) 21 t_model_value) L (xy_s (xy_s S 42 5 t_graph_grouped) 15 1 t_model_lines)) else none)) (fun K => rfl) ?_
    obtain ⟨hg1503, h⟩ := xn_if h
    refine xe_pos hg1503 (xe_k ?_)
    refine xe_seg ok 7 (G := (fun K => if xr_in v4 320 = true then K (12, xm_i12, xm_I12, 4, 24, 72, [(0, .ref 2), (3, .int v3), (4, .int v4), (5, .int (t_model_value v4.toNatClampNeg))], [], xw_W (xy_a (xy_a (xy_a (xy_a (xy_a A 16 t_model_number) 19 t_model_order) 18 t_model_size) 20 t_model_sort) 21 (upd t_model_value v4.toNatClampNeg v3)) L (xy_s (xy_s S 42 5 t_graph_grouped) 15 1 t_model_lines)) else none)) (fun K => rfl) ?_
    obtain ⟨hg1504, h⟩ := xn_if h
    refine xe_pos hg1504 (xe_k ?_)
    refine xe_seg ok 3 (G := (fun K => xr_back K 12 xm_i12 xm_I12 4 24 76 [(0, .ref 2), (3, .int v3), (4, .int v4), (5, .int (t_model_value v4.toNatClampNeg))] [] 78 true (K (92, xm_i92, xm_I92, 0, 0, 0, [(0, .ref 44)], [], xw_W (xy_a (xy_a (xy_a (xy_a (xy_a A 16 t_model_number) 19 t_model_order) 18 t_model_size) 20 t_model_sort) 21 (upd t_model_value v4.toNatClampNeg v3)) L (xy_s (xy_s S 42 5 t_graph_grouped) 15 1 t_model_lines))))) (fun K => rfl) ?_
    obtain ⟨q1505, hq1505, h⟩ := Option.bind_eq_some_iff.mp h
    have heq1505 := xh_gr_forgetGroups_42 (l := l) (g := g) ok (xy_a (xy_a (xy_a (xy_a (xy_a A 16 t_model_number) 19 t_model_order) 18 t_model_size) 20 t_model_sort) 21 (upd t_model_value v4.toNatClampNeg v3)) L (xy_s (xy_s S 42 5 t_graph_grouped) 15 1 t_model_lines) t_graph_grouped _ hq1505
    refine xe_call0 (ws' := xw_W (xy_a (xy_a (xy_a (xy_a (xy_a A 16 t_model_number) 19 t_model_order) 18 t_model_size) 20 t_model_sort) 21 (upd t_model_value v4.toNatClampNeg v3)) L (xy_s (xy_s S 42 5 q1505.2) 15 1 t_model_lines)) (by decide) heq1505 (Or.inl rfl) ?_
    obtain rfl := Option.some.inj h
    refine xe_seg ok 2 (G := (fun _ => some (.inl (some (.int (t_model_value v4.toNatClampNeg))), xw_W (xy_a (xy_a (xy_a (xy_a (xy_a A 16 t_model_number) 19 t_model_order) 18 t_model_size) 20 t_model_sort) 21 (upd t_model_value v4.toNatClampNeg v3)) L (xy_s (xy_s S 42 5 q1505.2) 15 1 t_model_lines)))) (fun K => rfl) ?_
    exact xe_ret
  · rw [hr1502] at heq1501
    obtain rfl := Option.some.inj h
    exact xe_thr (E := r1502) (ws' := xw_W (xy_a (xy_a (xy_a (xy_a (xy_a A 16 t_model_number) 19 t_model_order) 18 t_model_size) 20 t_model_sort) 21 t_model_value) L (xy_s (xy_s S 42 5 t_graph_grouped) 15 1 t_model_lines)) heq1501 rfl rfl rfl
theorem xh_xt_set_0_25 {l : Launch} {g : xr_G} (ok : xr_OK xm_P) (A : Nat → Nat → Int32) (L : Nat → Nat → Int64) (S : Nat → Nat → Int32) (t_model_lines : Int32) (t_model_number : (Nat → Int32)) (t_model_order : (Nat → Int32)) (t_model_size : (Nat → Int32)) (t_model_sort : (Nat → Int32)) (n : Nat) : ∀ (t_graph_grouped : Int32) (t_model_value : (Nat → Int32)) (v3 : Int32) (v4 : Int32) (s0 : Int32) (r : ((Int32 ⊕ String) × Int32 × (Nat → Int32))), xf_xt_set_25 t_model_lines t_model_number t_model_order t_model_size t_model_sort n t_graph_grouped t_model_value v3 v4 s0 = some r → xV xm_P l g (12, xm_i12, xm_I12, 2, 12, 25, [(0, .ref 2), (3, .int v3), (4, .int v4)], [.int s0], xw_W (xy_a (xy_a (xy_a (xy_a (xy_a A 16 t_model_number) 19 t_model_order) 18 t_model_size) 20 t_model_sort) 21 t_model_value) L (xy_s (xy_s S 42 5 t_graph_grouped) 15 1 t_model_lines)) (xo_i r.1, xw_W (xy_a (xy_a (xy_a (xy_a (xy_a A 16 t_model_number) 19 t_model_order) 18 t_model_size) 20 t_model_sort) 21 r.2.2) L (xy_s (xy_s S 42 5 r.2.1) 15 1 t_model_lines)) := by
  intro t_graph_grouped t_model_value v3 v4 s0 r h
  unfold xf_xt_set_25 at h
  refine xe_seg ok 1 (G := (fun K => xr_back K 12 xm_i12 xm_I12 3 18 25 [(0, .ref 2), (3, .int v3), (4, .int v4)] [] 78 true (K (21, xm_i21, xm_I21, 0, 0, 0, [(0, .int s0)], [], xw_W (xy_a (xy_a (xy_a (xy_a (xy_a A 16 t_model_number) 19 t_model_order) 18 t_model_size) 20 t_model_sort) 21 t_model_value) L (xy_s (xy_s S 42 5 t_graph_grouped) 15 1 t_model_lines))))) (fun K => rfl) ?_
  obtain ⟨q1497, hq1497, h⟩ := Option.bind_eq_some_iff.mp h
  have heq1497 := xh_xt_refuseUnless (l := l) (g := g) ok (xy_a (xy_a (xy_a (xy_a (xy_a A 16 t_model_number) 19 t_model_order) 18 t_model_size) 20 t_model_sort) 21 t_model_value) L (xy_s (xy_s S 42 5 t_graph_grouped) 15 1 t_model_lines) s0 _ hq1497
  rcases xb_sum h with ⟨r1498, hr1498, h⟩ | ⟨r1498, hr1498, h⟩
  · rw [hr1498] at heq1497
    refine xe_call0 (ws' := xw_W (xy_a (xy_a (xy_a (xy_a (xy_a A 16 t_model_number) 19 t_model_order) 18 t_model_size) 20 t_model_sort) 21 t_model_value) L (xy_s (xy_s S 42 5 t_graph_grouped) 15 1 t_model_lines)) (by decide) heq1497 (Or.inl rfl) ?_
    refine xe_seg ok 5 (G := (fun K => if xr_in v4 320 = true then K (12, xm_i12, xm_I12, 3, 18, 38, [(0, .ref 2), (3, .int v3), (4, .int v4)], [.int (t_model_sort v4.toNatClampNeg)], xw_W (xy_a (xy_a (xy_a (xy_a (xy_a A 16 t_model_number) 19 t_model_order) 18 t_model_size) 20 t_model_sort) 21 t_model_value) L (xy_s (xy_s S 42 5 t_graph_grouped) 15 1 t_model_lines)) else none)) (fun K => rfl) ?_
    obtain ⟨hg1499, h⟩ := xn_if h
    refine xe_pos hg1499 (xe_k ?_)
    refine xe_seg ok 1 (G := (fun K => if (t_model_sort v4.toNatClampNeg) = (0 : Int32) then K (12, xm_i12, xm_I12, 3, 18, 41, [(0, .ref 2), (3, .int v3), (4, .int v4)], [], xw_W (xy_a (xy_a (xy_a (xy_a (xy_a A 16 t_model_number) 19 t_model_order) 18 t_model_size) 20 t_model_sort) 21 t_model_value) L (xy_s (xy_s S 42 5 t_graph_grouped) 15 1 t_model_lines)) else K (12, xm_i12, xm_I12, 3, 18, 45, [(0, .ref 2), (3, .int v3), (4, .int v4)], [], xw_W (xy_a (xy_a (xy_a (xy_a (xy_a A 16 t_model_number) 19 t_model_order) 18 t_model_size) 20 t_model_sort) 21 t_model_value) L (xy_s (xy_s S 42 5 t_graph_grouped) 15 1 t_model_lines)))) (fun K => rfl) ?_
    rcases xb_if h with ⟨hc1500, h⟩ | ⟨hc1500, h⟩
    · refine xe_pos hc1500 (xe_k ?_)
      refine xe_seg ok 2 (G := (fun K => K (12, xm_i12, xm_I12, 3, 18, 46, [(0, .ref 2), (3, .int v3), (4, .int v4)], [.int ((1 : Int32))], xw_W (xy_a (xy_a (xy_a (xy_a (xy_a A 16 t_model_number) 19 t_model_order) 18 t_model_size) 20 t_model_sort) 21 t_model_value) L (xy_s (xy_s S 42 5 t_graph_grouped) 15 1 t_model_lines)))) (fun K => rfl) ?_
      refine xe_k ?_
      refine xe_sub [true, true, true] (lv' := [(0, .ref 2), (3, .int v3), (4, .int v4)]) rfl ?_
      exact xh_xt_set_0_46 ok A L S t_model_lines t_model_number t_model_order t_model_size t_model_sort n t_graph_grouped t_model_value v3 v4 ((1 : Int32)) _ h
    · refine xe_neg hc1500 (xe_k ?_)
      refine xe_seg ok 1 (G := (fun K => K (12, xm_i12, xm_I12, 3, 18, 46, [(0, .ref 2), (3, .int v3), (4, .int v4)], [.int ((0 : Int32))], xw_W (xy_a (xy_a (xy_a (xy_a (xy_a A 16 t_model_number) 19 t_model_order) 18 t_model_size) 20 t_model_sort) 21 t_model_value) L (xy_s (xy_s S 42 5 t_graph_grouped) 15 1 t_model_lines)))) (fun K => rfl) ?_
      refine xe_k ?_
      refine xe_sub [true, true, true] (lv' := [(0, .ref 2), (3, .int v3), (4, .int v4)]) rfl ?_
      exact xh_xt_set_0_46 ok A L S t_model_lines t_model_number t_model_order t_model_size t_model_sort n t_graph_grouped t_model_value v3 v4 ((0 : Int32)) _ h
  · rw [hr1498] at heq1497
    obtain rfl := Option.some.inj h
    exact xe_thr (E := r1498) (ws' := xw_W (xy_a (xy_a (xy_a (xy_a (xy_a A 16 t_model_number) 19 t_model_order) 18 t_model_size) 20 t_model_sort) 21 t_model_value) L (xy_s (xy_s S 42 5 t_graph_grouped) 15 1 t_model_lines)) heq1497 rfl rfl rfl
theorem xh_xt_set_0_24 {l : Launch} {g : xr_G} (ok : xr_OK xm_P) (A : Nat → Nat → Int32) (L : Nat → Nat → Int64) (S : Nat → Nat → Int32) (t_model_lines : Int32) (t_model_number : (Nat → Int32)) (t_model_order : (Nat → Int32)) (t_model_size : (Nat → Int32)) (t_model_sort : (Nat → Int32)) (n : Nat) : ∀ (t_graph_grouped : Int32) (t_model_value : (Nat → Int32)) (v3 : Int32) (v4 : Int32) (r : ((Int32 ⊕ String) × Int32 × (Nat → Int32))), xf_xt_set_24 t_model_lines t_model_number t_model_order t_model_size t_model_sort n t_graph_grouped t_model_value v3 v4 = some r → xV xm_P l g (12, xm_i12, xm_I12, 2, 12, 24, [(0, .ref 2), (3, .int v3), (4, .int v4)], [], xw_W (xy_a (xy_a (xy_a (xy_a (xy_a A 16 t_model_number) 19 t_model_order) 18 t_model_size) 20 t_model_sort) 21 t_model_value) L (xy_s (xy_s S 42 5 t_graph_grouped) 15 1 t_model_lines)) (xo_i r.1, xw_W (xy_a (xy_a (xy_a (xy_a (xy_a A 16 t_model_number) 19 t_model_order) 18 t_model_size) 20 t_model_sort) 21 r.2.2) L (xy_s (xy_s S 42 5 r.2.1) 15 1 t_model_lines)) := by
  intro t_graph_grouped t_model_value v3 v4 r h
  unfold xf_xt_set_24 at h
  refine xe_seg ok 1 (G := (fun K => K (12, xm_i12, xm_I12, 2, 12, 25, [(0, .ref 2), (3, .int v3), (4, .int v4)], [.int ((0 : Int32))], xw_W (xy_a (xy_a (xy_a (xy_a (xy_a A 16 t_model_number) 19 t_model_order) 18 t_model_size) 20 t_model_sort) 21 t_model_value) L (xy_s (xy_s S 42 5 t_graph_grouped) 15 1 t_model_lines)))) (fun K => rfl) ?_
  refine xe_k ?_
  refine xe_sub [true, true, true] (lv' := [(0, .ref 2), (3, .int v3), (4, .int v4)]) rfl ?_
  exact xh_xt_set_0_25 ok A L S t_model_lines t_model_number t_model_order t_model_size t_model_sort n t_graph_grouped t_model_value v3 v4 ((0 : Int32)) _ h
theorem xh_xt_set_0 {l : Launch} {g : xr_G} (ok : xr_OK xm_P) (A : Nat → Nat → Int32) (L : Nat → Nat → Int64) (S : Nat → Nat → Int32) (t_model_lines : Int32) (t_model_number : (Nat → Int32)) (t_model_order : (Nat → Int32)) (t_model_size : (Nat → Int32)) (t_model_sort : (Nat → Int32)) (n : Nat) : ∀ (t_graph_grouped : Int32) (t_model_value : (Nat → Int32)) (a1 : Int32) (a2 : Int32) (a3 : Int32) (r : ((Int32 ⊕ String) × Int32 × (Nat → Int32))), xf_xt_set t_model_lines t_model_number t_model_order t_model_size t_model_sort n t_graph_grouped t_model_value a1 a2 a3 = some r → xV xm_P l g (12, xm_i12, xm_I12, 0, 0, 0, [(0, .ref 2), (1, .int a1), (2, .int a2), (3, .int a3)], [], xw_W (xy_a (xy_a (xy_a (xy_a (xy_a A 16 t_model_number) 19 t_model_order) 18 t_model_size) 20 t_model_sort) 21 t_model_value) L (xy_s (xy_s S 42 5 t_graph_grouped) 15 1 t_model_lines)) (xo_i r.1, xw_W (xy_a (xy_a (xy_a (xy_a (xy_a A 16 t_model_number) 19 t_model_order) 18 t_model_size) 20 t_model_sort) 21 r.2.2) L (xy_s (xy_s S 42 5 r.2.1) 15 1 t_model_lines)) := by
  intro t_graph_grouped t_model_value a1 a2 a3 r h
  unfold xf_xt_set at h
  refine xe_seg ok 4 (G := (fun K => xr_back K 12 xm_i12 xm_I12 2 12 3 [(0, .ref 2), (1, .int a1), (2, .int a2), (3, .int a3)] [] 78 true (K (23, xm_i23, xm_I23, 0, 0, 0, [(0, .ref 2), (1, .int a1), (2, .int a2)], [], xw_W (xy_a (xy_a (xy_a (xy_a (xy_a A 16 t_model_number) 19 t_model_order) 18 t_model_size) 20 t_model_sort) 21 t_model_value) L (xy_s (xy_s S 42 5 t_graph_grouped) 15 1 t_model_lines))))) (fun K => rfl) ?_
  obtain ⟨q1494, hq1494, h⟩ := Option.bind_eq_some_iff.mp h
  have heq1494 := xh_xt_spotOrRefuse_0 (l := l) (g := g) ok (xy_a (xy_a (xy_a (xy_a (xy_a A 16 t_model_number) 19 t_model_order) 18 t_model_size) 20 t_model_sort) 21 t_model_value) L (xy_s (xy_s S 42 5 t_graph_grouped) 15 1 t_model_lines) t_model_lines t_model_number t_model_order t_model_size n a1 a2 _ hq1494
  rcases xb_sum h with ⟨r1495, hr1495, h⟩ | ⟨r1495, hr1495, h⟩
  · rw [hr1495] at heq1494
    refine xe_call1 (ws' := xw_W (xy_a (xy_a (xy_a (xy_a (xy_a A 16 t_model_number) 19 t_model_order) 18 t_model_size) 20 t_model_sort) 21 t_model_value) L (xy_s (xy_s S 42 5 t_graph_grouped) 15 1 t_model_lines)) (by decide) heq1494 (Or.inl rfl) ?_
    refine xe_seg ok 4 (G := (fun K => if a3 < ((-999999999 : Int32)) then K (12, xm_i12, xm_I12, 2, 12, 24, [(0, .ref 2), (1, .int a1), (2, .int a2), (3, .int a3), (4, .int r1495)], [], xw_W (xy_a (xy_a (xy_a (xy_a (xy_a A 16 t_model_number) 19 t_model_order) 18 t_model_size) 20 t_model_sort) 21 t_model_value) L (xy_s (xy_s S 42 5 t_graph_grouped) 15 1 t_model_lines)) else K (12, xm_i12, xm_I12, 2, 12, 14, [(0, .ref 2), (1, .int a1), (2, .int a2), (3, .int a3), (4, .int r1495)], [], xw_W (xy_a (xy_a (xy_a (xy_a (xy_a A 16 t_model_number) 19 t_model_order) 18 t_model_size) 20 t_model_sort) 21 t_model_value) L (xy_s (xy_s S 42 5 t_graph_grouped) 15 1 t_model_lines)))) (fun K => rfl) ?_
    rcases xb_if h with ⟨hc1496, h⟩ | ⟨hc1496, h⟩
    · refine xe_pos hc1496 (xe_k ?_)
      refine xe_sub [true, false, false, true, true] (lv' := [(0, .ref 2), (3, .int a3), (4, .int r1495)]) rfl ?_
      exact xh_xt_set_0_24 ok A L S t_model_lines t_model_number t_model_order t_model_size t_model_sort n t_graph_grouped t_model_value a3 r1495 _ h
    · refine xe_neg hc1496 (xe_k ?_)
      refine xe_seg ok 3 (G := (fun K => if ((999999999 : Int32)) < a3 then K (12, xm_i12, xm_I12, 2, 12, 24, [(0, .ref 2), (1, .int a1), (2, .int a2), (3, .int a3), (4, .int r1495)], [], xw_W (xy_a (xy_a (xy_a (xy_a (xy_a A 16 t_model_number) 19 t_model_order) 18 t_model_size) 20 t_model_sort) 21 t_model_value) L (xy_s (xy_s S 42 5 t_graph_grouped) 15 1 t_model_lines)) else K (12, xm_i12, xm_I12, 2, 12, 20, [(0, .ref 2), (1, .int a1), (2, .int a2), (3, .int a3), (4, .int r1495)], [], xw_W (xy_a (xy_a (xy_a (xy_a (xy_a A 16 t_model_number) 19 t_model_order) 18 t_model_size) 20 t_model_sort) 21 t_model_value) L (xy_s (xy_s S 42 5 t_graph_grouped) 15 1 t_model_lines)))) (fun K => rfl) ?_
      rcases xb_if h with ⟨hc1506, h⟩ | ⟨hc1506, h⟩
      · refine xe_pos hc1506 (xe_k ?_)
        refine xe_sub [true, false, false, true, true] (lv' := [(0, .ref 2), (3, .int a3), (4, .int r1495)]) rfl ?_
        exact xh_xt_set_0_24 ok A L S t_model_lines t_model_number t_model_order t_model_size t_model_sort n t_graph_grouped t_model_value a3 r1495 _ h
      · refine xe_neg hc1506 (xe_k ?_)
        refine xe_seg ok 2 (G := (fun K => K (12, xm_i12, xm_I12, 2, 12, 25, [(0, .ref 2), (1, .int a1), (2, .int a2), (3, .int a3), (4, .int r1495)], [.int ((1 : Int32))], xw_W (xy_a (xy_a (xy_a (xy_a (xy_a A 16 t_model_number) 19 t_model_order) 18 t_model_size) 20 t_model_sort) 21 t_model_value) L (xy_s (xy_s S 42 5 t_graph_grouped) 15 1 t_model_lines)))) (fun K => rfl) ?_
        refine xe_k ?_
        refine xe_sub [true, false, false, true, true] (lv' := [(0, .ref 2), (3, .int a3), (4, .int r1495)]) rfl ?_
        exact xh_xt_set_0_25 ok A L S t_model_lines t_model_number t_model_order t_model_size t_model_sort n t_graph_grouped t_model_value a3 r1495 ((1 : Int32)) _ h
  · rw [hr1495] at heq1494
    obtain rfl := Option.some.inj h
    exact xe_thr (E := r1495) (ws' := xw_W (xy_a (xy_a (xy_a (xy_a (xy_a A 16 t_model_number) 19 t_model_order) 18 t_model_size) 20 t_model_sort) 21 t_model_value) L (xy_s (xy_s S 42 5 t_graph_grouped) 15 1 t_model_lines)) heq1494 rfl rfl rfl
theorem xh_la_set_0_77 {l : Launch} {g : xr_G} (ok : xr_OK xm_P) (A : Nat → Nat → Int32) (L : Nat → Nat → Int64) (S : Nat → Nat → Int32) (p1_model_lines : Int32) (p1_model_number : (Nat → Int32)) (p1_model_order : (Nat → Int32)) (p1_model_size : (Nat → Int32)) (p1_model_sort : (Nat → Int32)) (n_p5 : Nat) (n : Nat) : ∀ (p1_graph_grouped : Int32) (p1_model_value : (Nat → Int32)) (p5 : (Nat → Int64)) (a2 : Int32) (a3 : Int32) (a4 : Int32) (r : (Int32 × Int32 × (Nat → Int32) × (Nat → Int64))), xf_la_set p1_model_lines p1_model_number p1_model_order p1_model_size p1_model_sort n_p5 n p1_graph_grouped p1_model_value p5 a2 a3 a4 = some r → xV xm_P l g (178, xm_i178, xm_I178, 0, 0, 0, [(0, .ref 2), (1, .int a2), (2, .int a3), (3, .int a4), (4, .ref 79)], [], xw_W (xy_a (xy_a (xy_a (xy_a (xy_a A 16 p1_model_number) 19 p1_model_order) 18 p1_model_size) 20 p1_model_sort) 21 p1_model_value) (xy_l L 77 p5) (xy_s (xy_s S 42 5 p1_graph_grouped) 15 1 p1_model_lines)) (.inl (some (.int r.1)), xw_W (xy_a (xy_a (xy_a (xy_a (xy_a A 16 p1_model_number) 19 p1_model_order) 18 p1_model_size) 20 p1_model_sort) 21 r.2.2.1) (xy_l L 77 r.2.2.2) (xy_s (xy_s S 42 5 r.2.1) 15 1 p1_model_lines)) := by
  intro p1_graph_grouped p1_model_value p5 a2 a3 a4 r h
  unfold xf_la_set at h
  refine xe_seg ok 7 (G := (fun K => xr_back K 178 xm_i178 xm_I178 4 24 7 [(0, .ref 2), (1, .int a2), (2, .int a3), (3, .int a4), (4, .ref 79)] [.int ((0 : Int32)), .ref 79] 78 true (K (12, xm_i12, xm_I12, 0, 0, 0, [(0, .ref 2), (1, .int a2), (2, .int a3), (3, .int a4)], [], xw_W (xy_a (xy_a (xy_a (xy_a (xy_a A 16 p1_model_number) 19 p1_model_order) 18 p1_model_size) 20 p1_model_sort) 21 p1_model_value) (xy_l L 77 p5) (xy_s (xy_s S 42 5 p1_graph_grouped) 15 1 p1_model_lines))))) (fun K => rfl) ?_
  obtain ⟨q1507, hq1507, h⟩ := Option.bind_eq_some_iff.mp h
  have heq1507 := xh_xt_set_0 (l := l) (g := g) ok (xy_a (xy_a (xy_a (xy_a (xy_a A 16 p1_model_number) 19 p1_model_order) 18 p1_model_size) 20 p1_model_sort) 21 p1_model_value) (xy_l L 77 p5) (xy_s (xy_s S 42 5 p1_graph_grouped) 15 1 p1_model_lines) p1_model_lines p1_model_number p1_model_order p1_model_size p1_model_sort n p1_graph_grouped p1_model_value a2 a3 a4 _ hq1507
  rcases xb_sum h with ⟨r1508, hr1508, h⟩ | ⟨r1508, hr1508, h⟩
  · rw [hr1508] at heq1507
    refine xe_call1 (ws' := xw_W (xy_a (xy_a (xy_a (xy_a (xy_a A 16 p1_model_number) 19 p1_model_order) 18 p1_model_size) 20 p1_model_sort) 21 q1507.2.2) (xy_l L 77 p5) (xy_s (xy_s S 42 5 q1507.2.1) 15 1 p1_model_lines)) (by decide) heq1507 (Or.inl rfl) ?_
    refine xe_seg ok 2 (G := (fun K => if xr_in ((0 : Int32)) 1 = true then K (178, xm_i178, xm_I178, 4, 24, 12, [(0, .ref 2), (1, .int a2), (2, .int a3), (3, .int a4), (4, .ref 79)], [], xw_W (xy_a (xy_a (xy_a (xy_a (xy_a A 16 p1_model_number) 19 p1_model_order) 18 p1_model_size) 20 p1_model_sort) 21 q1507.2.2) (xy_l L 77 (vp_updL p5 ((0 : Int32)).toNatClampNeg r1508.toInt64)) (xy_s (xy_s S 42 5 q1507.2.1) 15 1 p1_model_lines)) else none)) (fun K => rfl) ?_
    obtain ⟨hg1509, h⟩ := xn_if h
    refine xe_pos hg1509 (xe_k ?_)
    obtain rfl := Option.some.inj h
    refine xe_seg ok 3 (G := (fun _ => some (.inl (some (.int ((0 : Int32)))), xw_W (xy_a (xy_a (xy_a (xy_a (xy_a A 16 p1_model_number) 19 p1_model_order) 18 p1_model_size) 20 p1_model_sort) 21 q1507.2.2) (xy_l L 77 (vp_updL p5 ((0 : Int32)).toNatClampNeg r1508.toInt64)) (xy_s (xy_s S 42 5 q1507.2.1) 15 1 p1_model_lines)))) (fun K => rfl) ?_
    exact xe_ret
  · rw [hr1508] at heq1507
    rcases xb_if h with ⟨hc1510, h⟩ | ⟨hc1510, h⟩
    · subst hc1510
      refine xe_catch (ws' := xw_W (xy_a (xy_a (xy_a (xy_a (xy_a A 16 p1_model_number) 19 p1_model_order) 18 p1_model_size) 20 p1_model_sort) 21 q1507.2.2) (xy_l L 77 p5) (xy_s (xy_s S 42 5 q1507.2.1) 15 1 p1_model_lines)) (by decide) heq1507 (q' := (178, xm_i178, xm_I178, 4, 24, 17, [(0, .ref 2), (1, .int a2), (2, .int a3), (3, .int a4), (4, .ref 79)], [], xw_W (xy_a (xy_a (xy_a (xy_a (xy_a A 16 p1_model_number) 19 p1_model_order) 18 p1_model_size) 20 p1_model_sort) 21 q1507.2.2) (xy_l L 77 p5) (xy_s (xy_s S 42 5 q1507.2.1) 15 1 p1_model_lines))) (fun K => rfl) ?_
      obtain rfl := Option.some.inj h
      refine xe_seg ok 2 (G := (fun _ => some (.inl (some (.int ((1 : Int32)))), xw_W (xy_a (xy_a (xy_a (xy_a (xy_a A 16 p1_model_number) 19 p1_model_order) 18 p1_model_size) 20 p1_model_sort) 21 q1507.2.2) (xy_l L 77 p5) (xy_s (xy_s S 42 5 q1507.2.1) 15 1 p1_model_lines)))) (fun K => rfl) ?_
      exact xe_ret
    · cases h
theorem xh_xt_misfitOf_0_27 {l : Launch} {g : xr_G} (ok : xr_OK xm_P) (A : Nat → Nat → Int32) (L : Nat → Nat → Int64) (S : Nat → Nat → Int32) (t_kinds_mayBeNothing : (Nat → Int32)) (t_kinds_name : (Nat → Int64)) (t_kinds_sort : (Nat → Int32)) (t_kinds_total : Int32) (t_model_name : (Nat → Int64)) (t_model_size : (Nat → Int32)) (t_model_sort : (Nat → Int32)) (t_model_value : (Nat → Int32)) (n : Nat) : ∀  (r : (Int32)), xf_xt_misfitOf_27 t_kinds_mayBeNothing t_kinds_name t_kinds_sort t_kinds_total t_model_name t_model_size t_model_sort t_model_value n  = some r → xV xm_P l g (25, xm_i25, xm_I25, 0, 0, 27, [], [], xw_W (xy_a (xy_a (xy_a (xy_a (xy_a A 9 t_kinds_mayBeNothing) 8 t_kinds_sort) 18 t_model_size) 20 t_model_sort) 21 t_model_value) (xy_l (xy_l L 6 t_kinds_name) 17 t_model_name) (xy_s S 5 0 t_kinds_total)) (.inl (some (.int r)), xw_W (xy_a (xy_a (xy_a (xy_a (xy_a A 9 t_kinds_mayBeNothing) 8 t_kinds_sort) 18 t_model_size) 20 t_model_sort) 21 t_model_value) (xy_l (xy_l L 6 t_kinds_name) 17 t_model_name) (xy_s S 5 0 t_kinds_total)) := by
  intro  r h
  unfold xf_xt_misfitOf_27 at h
  obtain rfl := Option.some.inj h
  refine xe_seg ok 2 (G := (fun _ => some (.inl (some (.int ((-1 : Int32)))), xw_W (xy_a (xy_a (xy_a (xy_a (xy_a A 9 t_kinds_mayBeNothing) 8 t_kinds_sort) 18 t_model_size) 20 t_model_sort) 21 t_model_value) (xy_l (xy_l L 6 t_kinds_name) 17 t_model_name) (xy_s S 5 0 t_kinds_total)))) (fun K => rfl) ?_
  exact xe_ret
theorem xh_kd_takesSort_5_59 {l : Launch} {g : xr_G} (ok : xr_OK xm_P) (A : Nat → Nat → Int32) (L : Nat → Nat → Int64) (S : Nat → Nat → Int32) (t_mayBeNothing : (Nat → Int32)) (t_sort : (Nat → Int32)) : ∀ (s0 : Int32) (r : (Int32)), xf_kd_takesSort_59 t_mayBeNothing t_sort s0 = some r → xV xm_P l g (106, xm_i106, xm_I106, 0, 0, 59, [], [.int s0], xw_W (xy_a (xy_a A 9 t_mayBeNothing) 8 t_sort) L S) (.inl (some (.int r)), xw_W (xy_a (xy_a A 9 t_mayBeNothing) 8 t_sort) L S) := by
  intro s0 r h
  unfold xf_kd_takesSort_59 at h
  refine xe_seg ok 1 (G := (fun _ => if fits .boolean (.int s0) = true then some (.inl (some (.int s0)), xw_W (xy_a (xy_a A 9 t_mayBeNothing) 8 t_sort) L S) else none)) (fun K => rfl) ?_
  obtain ⟨hg1535, h⟩ := xn_if h
  obtain rfl := Option.some.inj h
  exact xe_pos (A := fun _ => some (.inl (some (.int s0)), xw_W (xy_a (xy_a A 9 t_mayBeNothing) 8 t_sort) L S)) (B := fun _ => none) hg1535 xe_ret
theorem xh_kd_takesSort_5_54 {l : Launch} {g : xr_G} (ok : xr_OK xm_P) (A : Nat → Nat → Int32) (L : Nat → Nat → Int64) (S : Nat → Nat → Int32) (t_mayBeNothing : (Nat → Int32)) (t_sort : (Nat → Int32)) : ∀  (r : (Int32)), xf_kd_takesSort_54 t_mayBeNothing t_sort  = some r → xV xm_P l g (106, xm_i106, xm_I106, 0, 0, 54, [], [], xw_W (xy_a (xy_a A 9 t_mayBeNothing) 8 t_sort) L S) (.inl (some (.int r)), xw_W (xy_a (xy_a A 9 t_mayBeNothing) 8 t_sort) L S) := by
  intro  r h
  unfold xf_kd_takesSort_54 at h
  refine xe_seg ok 2 (G := (fun K => K (106, xm_i106, xm_I106, 0, 0, 59, [], [.int ((1 : Int32))], xw_W (xy_a (xy_a A 9 t_mayBeNothing) 8 t_sort) L S))) (fun K => rfl) ?_
  refine xe_k ?_
  refine xe_sub [] (lv' := []) rfl ?_
  exact xh_kd_takesSort_5_59 ok A L S t_mayBeNothing t_sort ((1 : Int32)) _ h
theorem xh_kd_takesSort_5_58 {l : Launch} {g : xr_G} (ok : xr_OK xm_P) (A : Nat → Nat → Int32) (L : Nat → Nat → Int64) (S : Nat → Nat → Int32) (t_mayBeNothing : (Nat → Int32)) (t_sort : (Nat → Int32)) : ∀  (r : (Int32)), xf_kd_takesSort_58 t_mayBeNothing t_sort  = some r → xV xm_P l g (106, xm_i106, xm_I106, 0, 0, 58, [], [], xw_W (xy_a (xy_a A 9 t_mayBeNothing) 8 t_sort) L S) (.inl (some (.int r)), xw_W (xy_a (xy_a A 9 t_mayBeNothing) 8 t_sort) L S) := by
  intro  r h
  unfold xf_kd_takesSort_58 at h
  refine xe_seg ok 1 (G := (fun K => K (106, xm_i106, xm_I106, 0, 0, 59, [], [.int ((0 : Int32))], xw_W (xy_a (xy_a A 9 t_mayBeNothing) 8 t_sort) L S))) (fun K => rfl) ?_
  refine xe_k ?_
  refine xe_sub [] (lv' := []) rfl ?_
  exact xh_kd_takesSort_5_59 ok A L S t_mayBeNothing t_sort ((0 : Int32)) _ h
theorem xh_kd_takesSort_5 {l : Launch} {g : xr_G} (ok : xr_OK xm_P) (A : Nat → Nat → Int32) (L : Nat → Nat → Int64) (S : Nat → Nat → Int32) (t_mayBeNothing : (Nat → Int32)) (t_sort : (Nat → Int32)) : ∀ (a1 : Int32) (a2 : Int32) (a3 : Int32) (a4 : Int32) (r : (Int32)), xf_kd_takesSort t_mayBeNothing t_sort a1 a2 a3 a4 = some r → xV xm_P l g (106, xm_i106, xm_I106, 0, 0, 0, [(0, .ref 7), (1, .int a1), (2, .int a2), (3, .int a3), (4, .int a4)], [], xw_W (xy_a (xy_a A 9 t_mayBeNothing) 8 t_sort) L S) (.inl (some (.int r)), xw_W (xy_a (xy_a A 9 t_mayBeNothing) 8 t_sort) L S) := by
  intro a1 a2 a3 a4 r h
  unfold xf_kd_takesSort at h
  refine xe_seg ok 9 (G := (fun K => if a3 = ((6 : Int32)) then K (106, xm_i106, xm_I106, 0, 0, 14, [(0, .ref 7), (1, .int a1), (2, .int a2), (3, .int a3), (4, .int a4), (5, .int ((a1 * ((8 : Int32))) + a2))], [], xw_W (xy_a (xy_a A 9 t_mayBeNothing) 8 t_sort) L S) else K (106, xm_i106, xm_I106, 0, 0, 22, [(0, .ref 7), (1, .int a1), (2, .int a2), (3, .int a3), (4, .int a4), (5, .int ((a1 * ((8 : Int32))) + a2))], [], xw_W (xy_a (xy_a A 9 t_mayBeNothing) 8 t_sort) L S))) (fun K => rfl) ?_
  rcases xb_if h with ⟨hc1530, h⟩ | ⟨hc1530, h⟩
  · refine xe_pos hc1530 (xe_k ?_)
    refine xe_seg ok 4 (G := (fun K => if xr_in ((a1 * ((8 : Int32))) + a2) 96 = true then K (106, xm_i106, xm_I106, 0, 0, 21, [(0, .ref 7), (1, .int a1), (2, .int a2), (3, .int a3), (4, .int a4), (5, .int ((a1 * ((8 : Int32))) + a2))], [.int (t_mayBeNothing ((a1 * ((8 : Int32))) + a2).toNatClampNeg)], xw_W (xy_a (xy_a A 9 t_mayBeNothing) 8 t_sort) L S) else none)) (fun K => rfl) ?_
    obtain ⟨hg1531, h⟩ := xn_if h
    refine xe_pos hg1531 (xe_k ?_)
    refine xe_seg ok 1 (G := (fun _ => if fits .boolean (.int (t_mayBeNothing ((a1 * ((8 : Int32))) + a2).toNatClampNeg)) = true then some (.inl (some (.int (t_mayBeNothing ((a1 * ((8 : Int32))) + a2).toNatClampNeg))), xw_W (xy_a (xy_a A 9 t_mayBeNothing) 8 t_sort) L S) else none)) (fun K => rfl) ?_
    obtain ⟨hg1532, h⟩ := xn_if h
    obtain rfl := Option.some.inj h
    exact xe_pos (A := fun _ => some (.inl (some (.int (t_mayBeNothing ((a1 * ((8 : Int32))) + a2).toNatClampNeg))), xw_W (xy_a (xy_a A 9 t_mayBeNothing) 8 t_sort) L S)) (B := fun _ => none) hg1532 xe_ret
  · refine xe_neg hc1530 (xe_k ?_)
    refine xe_seg ok 5 (G := (fun K => if xr_in ((a1 * ((8 : Int32))) + a2) 96 = true then K (106, xm_i106, xm_I106, 0, 0, 30, [(0, .ref 7), (1, .int a1), (2, .int a2), (3, .int a3), (4, .int a4), (5, .int ((a1 * ((8 : Int32))) + a2))], [.int (t_sort ((a1 * ((8 : Int32))) + a2).toNatClampNeg), .int a3], xw_W (xy_a (xy_a A 9 t_mayBeNothing) 8 t_sort) L S) else none)) (fun K => rfl) ?_
    obtain ⟨hg1533, h⟩ := xn_if h
    refine xe_pos hg1533 (xe_k ?_)
    refine xe_seg ok 1 (G := (fun K => if a3 = (t_sort ((a1 * ((8 : Int32))) + a2).toNatClampNeg) then K (106, xm_i106, xm_I106, 0, 0, 54, [(0, .ref 7), (1, .int a1), (2, .int a2), (3, .int a3), (4, .int a4), (5, .int ((a1 * ((8 : Int32))) + a2))], [], xw_W (xy_a (xy_a A 9 t_mayBeNothing) 8 t_sort) L S) else K (106, xm_i106, xm_I106, 0, 0, 33, [(0, .ref 7), (1, .int a1), (2, .int a2), (3, .int a3), (4, .int a4), (5, .int ((a1 * ((8 : Int32))) + a2))], [], xw_W (xy_a (xy_a A 9 t_mayBeNothing) 8 t_sort) L S))) (fun K => rfl) ?_
    rcases xb_if h with ⟨hc1534, h⟩ | ⟨hc1534, h⟩
    · refine xe_pos hc1534 (xe_k ?_)
      refine xe_sub [false, false, false, false, false, false] (lv' := []) rfl ?_
      exact xh_kd_takesSort_5_54 ok A L S t_mayBeNothing t_sort _ h
    · refine xe_neg hc1534 (xe_k ?_)
      refine xe_seg ok 3 (G := (fun K => if a3 = ((3 : Int32)) then K (106, xm_i106, xm_I106, 0, 0, 38, [(0, .ref 7), (1, .int a1), (2, .int a2), (3, .int a3), (4, .int a4), (5, .int ((a1 * ((8 : Int32))) + a2))], [], xw_W (xy_a (xy_a A 9 t_mayBeNothing) 8 t_sort) L S) else K (106, xm_i106, xm_I106, 0, 0, 58, [(0, .ref 7), (1, .int a1), (2, .int a2), (3, .int a3), (4, .int a4), (5, .int ((a1 * ((8 : Int32))) + a2))], [], xw_W (xy_a (xy_a A 9 t_mayBeNothing) 8 t_sort) L S))) (fun K => rfl) ?_
      rcases xb_if h with ⟨hc1536, h⟩ | ⟨hc1536, h⟩
      · refine xe_pos hc1536 (xe_k ?_)
        refine xe_seg ok 2 (G := (fun K => if a4 = (0 : Int32) then K (106, xm_i106, xm_I106, 0, 0, 43, [(0, .ref 7), (1, .int a1), (2, .int a2), (3, .int a3), (4, .int a4), (5, .int ((a1 * ((8 : Int32))) + a2))], [], xw_W (xy_a (xy_a A 9 t_mayBeNothing) 8 t_sort) L S) else K (106, xm_i106, xm_I106, 0, 0, 58, [(0, .ref 7), (1, .int a1), (2, .int a2), (3, .int a3), (4, .int a4), (5, .int ((a1 * ((8 : Int32))) + a2))], [], xw_W (xy_a (xy_a A 9 t_mayBeNothing) 8 t_sort) L S))) (fun K => rfl) ?_
        rcases xb_if h with ⟨hc1537, h⟩ | ⟨hc1537, h⟩
        · refine xe_pos hc1537 (xe_k ?_)
          refine xe_seg ok 4 (G := (fun K => if xr_in ((a1 * ((8 : Int32))) + a2) 96 = true then K (106, xm_i106, xm_I106, 0, 0, 50, [(0, .ref 7), (1, .int a1), (2, .int a2), (3, .int a3), (4, .int a4), (5, .int ((a1 * ((8 : Int32))) + a2))], [.int (t_sort ((a1 * ((8 : Int32))) + a2).toNatClampNeg)], xw_W (xy_a (xy_a A 9 t_mayBeNothing) 8 t_sort) L S) else none)) (fun K => rfl) ?_
          obtain ⟨hg1538, h⟩ := xn_if h
          refine xe_pos hg1538 (xe_k ?_)
          refine xe_seg ok 2 (G := (fun K => if (t_sort ((a1 * ((8 : Int32))) + a2).toNatClampNeg) = ((4 : Int32)) then K (106, xm_i106, xm_I106, 0, 0, 54, [(0, .ref 7), (1, .int a1), (2, .int a2), (3, .int a3), (4, .int a4), (5, .int ((a1 * ((8 : Int32))) + a2))], [], xw_W (xy_a (xy_a A 9 t_mayBeNothing) 8 t_sort) L S) else K (106, xm_i106, xm_I106, 0, 0, 58, [(0, .ref 7), (1, .int a1), (2, .int a2), (3, .int a3), (4, .int a4), (5, .int ((a1 * ((8 : Int32))) + a2))], [], xw_W (xy_a (xy_a A 9 t_mayBeNothing) 8 t_sort) L S))) (fun K => rfl) ?_
          rcases xb_if h with ⟨hc1539, h⟩ | ⟨hc1539, h⟩
          · refine xe_pos hc1539 (xe_k ?_)
            refine xe_sub [false, false, false, false, false, false] (lv' := []) rfl ?_
            exact xh_kd_takesSort_5_54 ok A L S t_mayBeNothing t_sort _ h
          · refine xe_neg hc1539 (xe_k ?_)
            refine xe_sub [false, false, false, false, false, false] (lv' := []) rfl ?_
            exact xh_kd_takesSort_5_58 ok A L S t_mayBeNothing t_sort _ h
        · refine xe_neg hc1537 (xe_k ?_)
          refine xe_sub [false, false, false, false, false, false] (lv' := []) rfl ?_
          exact xh_kd_takesSort_5_58 ok A L S t_mayBeNothing t_sort _ h
      · refine xe_neg hc1536 (xe_k ?_)
        refine xe_sub [false, false, false, false, false, false] (lv' := []) rfl ?_
        exact xh_kd_takesSort_5_58 ok A L S t_mayBeNothing t_sort _ h
theorem xh_xt_misfitOf_0_32 {l : Launch} {g : xr_G} (ok : xr_OK xm_P) (A : Nat → Nat → Int32) (L : Nat → Nat → Int64) (S : Nat → Nat → Int32) (t_kinds_mayBeNothing : (Nat → Int32)) (t_kinds_name : (Nat → Int64)) (t_kinds_sort : (Nat → Int32)) (t_kinds_total : Int32) (t_model_name : (Nat → Int64)) (t_model_size : (Nat → Int32)) (t_model_sort : (Nat → Int32)) (t_model_value : (Nat → Int32)) (n : Nat) : ∀ (N : Nat) (v1 : Int32) (v3 : Int32) (v4 : Int32) (r : (Int32)), xf_xt_misfitOf_32 t_kinds_mayBeNothing t_kinds_name t_kinds_sort t_kinds_total t_model_name t_model_size t_model_sort t_model_value n N v1 v3 v4 = some r → xV xm_P l g (25, xm_i25, xm_I25, 0, 0, 32, [(0, .ref 2), (1, .int v1), (3, .int v3), (4, .int v4)], [], xw_W (xy_a (xy_a (xy_a (xy_a (xy_a A 9 t_kinds_mayBeNothing) 8 t_kinds_sort) 18 t_model_size) 20 t_model_sort) 21 t_model_value) (xy_l (xy_l L 6 t_kinds_name) 17 t_model_name) (xy_s S 5 0 t_kinds_total)) (.inl (some (.int r)), xw_W (xy_a (xy_a (xy_a (xy_a (xy_a A 9 t_kinds_mayBeNothing) 8 t_kinds_sort) 18 t_model_size) 20 t_model_sort) 21 t_model_value) (xy_l (xy_l L 6 t_kinds_name) 17 t_model_name) (xy_s S 5 0 t_kinds_total)) := by
  intro N
  induction N with
  | zero => intro v1 v3 v4 r h; cases h
  | succ N hk32 =>
    intro v1 v3 v4 r h
    refine xe_seg ok 6 (G := (fun K => if xr_in v1 40 = true then K (25, xm_i25, xm_I25, 0, 0, 43, [(0, .ref 2), (1, .int v1), (3, .int v3), (4, .int v4)], [.int (t_model_size v1.toNatClampNeg), .int v4], xw_W (xy_a (xy_a (xy_a (xy_a (xy_a A 9 t_kinds_mayBeNothing) 8 t_kinds_sort) 18 t_model_size) 20 t_model_sort) 21 t_model_value) (xy_l (xy_l L 6 t_kinds_name) 17 t_model_name) (xy_s S 5 0 t_kinds_total)) else none)) (fun K => rfl) ?_
    obtain ⟨hg1526, h⟩ := xn_if h
    refine xe_pos hg1526 (xe_k ?_)
    refine xe_seg ok 1 (G := (fun K => if v4 < (t_model_size v1.toNatClampNeg) then K (25, xm_i25, xm_I25, 0, 0, 46, [(0, .ref 2), (1, .int v1), (3, .int v3), (4, .int v4)], [], xw_W (xy_a (xy_a (xy_a (xy_a (xy_a A 9 t_kinds_mayBeNothing) 8 t_kinds_sort) 18 t_model_size) 20 t_model_sort) 21 t_model_value) (xy_l (xy_l L 6 t_kinds_name) 17 t_model_name) (xy_s S 5 0 t_kinds_total)) else K (25, xm_i25, xm_I25, 0, 0, 97, [(0, .ref 2), (1, .int v1), (3, .int v3), (4, .int v4)], [], xw_W (xy_a (xy_a (xy_a (xy_a (xy_a A 9 t_kinds_mayBeNothing) 8 t_kinds_sort) 18 t_model_size) 20 t_model_sort) 21 t_model_value) (xy_l (xy_l L 6 t_kinds_name) 17 t_model_name) (xy_s S 5 0 t_kinds_total)))) (fun K => rfl) ?_
    rcases xb_if h with ⟨hc1527, h⟩ | ⟨hc1527, h⟩
    · refine xe_pos hc1527 (xe_k ?_)
      refine xe_seg ok 15 (G := (fun K => if xr_in ((v1 * ((8 : Int32))) + v4) 320 = true then K (25, xm_i25, xm_I25, 0, 0, 72, [(0, .ref 2), (1, .int v1), (3, .int v3), (4, .int v4), (5, .int ((v1 * ((8 : Int32))) + v4))], [.int (t_model_sort ((v1 * ((8 : Int32))) + v4).toNatClampNeg), .int v4, .int v3, .ref 7], xw_W (xy_a (xy_a (xy_a (xy_a (xy_a A 9 t_kinds_mayBeNothing) 8 t_kinds_sort) 18 t_model_size) 20 t_model_sort) 21 t_model_value) (xy_l (xy_l L 6 t_kinds_name) 17 t_model_name) (xy_s S 5 0 t_kinds_total)) else none)) (fun K => rfl) ?_
      obtain ⟨hg1528, h⟩ := xn_if h
      refine xe_pos hg1528 (xe_k ?_)
      refine xe_seg ok 5 (G := (fun K => if xr_in ((v1 * ((8 : Int32))) + v4) 320 = true then K (25, xm_i25, xm_I25, 0, 0, 82, [(0, .ref 2), (1, .int v1), (3, .int v3), (4, .int v4), (5, .int ((v1 * ((8 : Int32))) + v4))], [.int (t_model_value ((v1 * ((8 : Int32))) + v4).toNatClampNeg), .int (t_model_sort ((v1 * ((8 : Int32))) + v4).toNatClampNeg), .int v4, .int v3, .ref 7], xw_W (xy_a (xy_a (xy_a (xy_a (xy_a A 9 t_kinds_mayBeNothing) 8 t_kinds_sort) 18 t_model_size) 20 t_model_sort) 21 t_model_value) (xy_l (xy_l L 6 t_kinds_name) 17 t_model_name) (xy_s S 5 0 t_kinds_total)) else none)) (fun K => rfl) ?_
      obtain ⟨hg1529, h⟩ := xn_if h
      refine xe_pos hg1529 (xe_k ?_)
      refine xe_seg ok 1 (G := (fun K => xr_back K 25 xm_i25 xm_I25 0 0 82 [(0, .ref 2), (1, .int v1), (3, .int v3), (4, .int v4), (5, .int ((v1 * ((8 : Int32))) + v4))] [] 78 true (K (106, xm_i106, xm_I106, 0, 0, 0, [(0, .ref 7), (1, .int v3), (2, .int v4), (3, .int (t_model_sort ((v1 * ((8 : Int32))) + v4).toNatClampNeg)), (4, .int (t_model_value ((v1 * ((8 : Int32))) + v4).toNatClampNeg))], [], xw_W (xy_a (xy_a (xy_a (xy_a (xy_a A 9 t_kinds_mayBeNothing) 8 t_kinds_sort) 18 t_model_size) 20 t_model_sort) 21 t_model_value) (xy_l (xy_l L 6 t_kinds_name) 17 t_model_name) (xy_s S 5 0 t_kinds_total))))) (fun K => rfl) ?_
      obtain ⟨q1540, hq1540, h⟩ := Option.bind_eq_some_iff.mp h
      have heq1540 := xh_kd_takesSort_5 (l := l) (g := g) ok (xy_a (xy_a (xy_a (xy_a (xy_a A 9 t_kinds_mayBeNothing) 8 t_kinds_sort) 18 t_model_size) 20 t_model_sort) 21 t_model_value) (xy_l (xy_l L 6 t_kinds_name) 17 t_model_name) (xy_s S 5 0 t_kinds_total) t_kinds_mayBeNothing t_kinds_sort v3 v4 (t_model_sort ((v1 * ((8 : Int32))) + v4).toNatClampNeg) (t_model_value ((v1 * ((8 : Int32))) + v4).toNatClampNeg) _ hq1540
      refine xe_call1 (ws' := xw_W (xy_a (xy_a (xy_a (xy_a (xy_a A 9 t_kinds_mayBeNothing) 8 t_kinds_sort) 18 t_model_size) 20 t_model_sort) 21 t_model_value) (xy_l (xy_l L 6 t_kinds_name) 17 t_model_name) (xy_s S 5 0 t_kinds_total)) (by decide) heq1540 (Or.inl rfl) ?_
      refine xe_seg ok 1 (G := (fun K => if q1540 = (0 : Int32) then K (25, xm_i25, xm_I25, 0, 0, 88, [(0, .ref 2), (1, .int v1), (3, .int v3), (4, .int v4), (5, .int ((v1 * ((8 : Int32))) + v4))], [], xw_W (xy_a (xy_a (xy_a (xy_a (xy_a A 9 t_kinds_mayBeNothing) 8 t_kinds_sort) 18 t_model_size) 20 t_model_sort) 21 t_model_value) (xy_l (xy_l L 6 t_kinds_name) 17 t_model_name) (xy_s S 5 0 t_kinds_total)) else K (25, xm_i25, xm_I25, 0, 0, 91, [(0, .ref 2), (1, .int v1), (3, .int v3), (4, .int v4), (5, .int ((v1 * ((8 : Int32))) + v4))], [], xw_W (xy_a (xy_a (xy_a (xy_a (xy_a A 9 t_kinds_mayBeNothing) 8 t_kinds_sort) 18 t_model_size) 20 t_model_sort) 21 t_model_value) (xy_l (xy_l L 6 t_kinds_name) 17 t_model_name) (xy_s S 5 0 t_kinds_total)))) (fun K => rfl) ?_
      rcases xb_if h with ⟨hc1541, h⟩ | ⟨hc1541, h⟩
      · refine xe_pos hc1541 (xe_k ?_)
        obtain rfl := Option.some.inj h
        refine xe_seg ok 2 (G := (fun _ => some (.inl (some (.int v4)), xw_W (xy_a (xy_a (xy_a (xy_a (xy_a A 9 t_kinds_mayBeNothing) 8 t_kinds_sort) 18 t_model_size) 20 t_model_sort) 21 t_model_value) (xy_l (xy_l L 6 t_kinds_name) 17 t_model_name) (xy_s S 5 0 t_kinds_total)))) (fun K => rfl) ?_
        exact xe_ret
      · refine xe_neg hc1541 (xe_k ?_)
        refine xe_seg ok 2 (G := (fun K => K (25, xm_i25, xm_I25, 0, 0, 32, [(0, .ref 2), (1, .int v1), (3, .int v3), (4, .int (v4 + (1 : Int32))), (5, .int ((v1 * ((8 : Int32))) + v4))], [], xw_W (xy_a (xy_a (xy_a (xy_a (xy_a A 9 t_kinds_mayBeNothing) 8 t_kinds_sort) 18 t_model_size) 20 t_model_sort) 21 t_model_value) (xy_l (xy_l L 6 t_kinds_name) 17 t_model_name) (xy_s S 5 0 t_kinds_total)))) (fun K => rfl) ?_
        refine xe_k ?_
        refine xe_sub [true, true, true, true, false] (lv' := [(0, .ref 2), (1, .int v1), (3, .int v3), (4, .int (v4 + (1 : Int32)))]) rfl ?_
        exact hk32 v1 v3 (v4 + (1 : Int32)) _ h
    · refine xe_neg hc1527 (xe_k ?_)
      obtain rfl := Option.some.inj h
      refine xe_seg ok 2 (G := (fun _ => some (.inl (some (.int ((-1 : Int32)))), xw_W (xy_a (xy_a (xy_a (xy_a (xy_a A 9 t_kinds_mayBeNothing) 8 t_kinds_sort) 18 t_model_size) 20 t_model_sort) 21 t_model_value) (xy_l (xy_l L 6 t_kinds_name) 17 t_model_name) (xy_s S 5 0 t_kinds_total)))) (fun K => rfl) ?_
      exact xe_ret
theorem xh_xt_misfitOf_0 {l : Launch} {g : xr_G} (ok : xr_OK xm_P) (A : Nat → Nat → Int32) (L : Nat → Nat → Int64) (S : Nat → Nat → Int32) (t_kinds_mayBeNothing : (Nat → Int32)) (t_kinds_name : (Nat → Int64)) (t_kinds_sort : (Nat → Int32)) (t_kinds_total : Int32) (t_model_name : (Nat → Int64)) (t_model_size : (Nat → Int32)) (t_model_sort : (Nat → Int32)) (t_model_value : (Nat → Int32)) (n : Nat) : ∀ (a1 : Int32) (a2 : Int32) (r : (Int32)), xf_xt_misfitOf t_kinds_mayBeNothing t_kinds_name t_kinds_sort t_kinds_total t_model_name t_model_size t_model_sort t_model_value n a1 a2 = some r → xV xm_P l g (25, xm_i25, xm_I25, 0, 0, 0, [(0, .ref 2), (1, .int a1), (2, .int a2)], [], xw_W (xy_a (xy_a (xy_a (xy_a (xy_a A 9 t_kinds_mayBeNothing) 8 t_kinds_sort) 18 t_model_size) 20 t_model_sort) 21 t_model_value) (xy_l (xy_l L 6 t_kinds_name) 17 t_model_name) (xy_s S 5 0 t_kinds_total)) (.inl (some (.int r)), xw_W (xy_a (xy_a (xy_a (xy_a (xy_a A 9 t_kinds_mayBeNothing) 8 t_kinds_sort) 18 t_model_size) 20 t_model_sort) 21 t_model_value) (xy_l (xy_l L 6 t_kinds_name) 17 t_model_name) (xy_s S 5 0 t_kinds_total)) := by
  intro a1 a2 r h
  unfold xf_xt_misfitOf at h
  refine xe_seg ok 7 (G := (fun K => if xr_in a1 40 = true then K (25, xm_i25, xm_I25, 0, 0, 13, [(0, .ref 2), (1, .int a1), (2, .int a2)], [.long (t_model_name a1.toNatClampNeg), .ref 7], xw_W (xy_a (xy_a (xy_a (xy_a (xy_a A 9 t_kinds_mayBeNothing) 8 t_kinds_sort) 18 t_model_size) 20 t_model_sort) 21 t_model_value) (xy_l (xy_l L 6 t_kinds_name) 17 t_model_name) (xy_s S 5 0 t_kinds_total)) else none)) (fun K => rfl) ?_
  obtain ⟨hg1522, h⟩ := xn_if h
  refine xe_pos hg1522 (xe_k ?_)
  refine xe_seg ok 1 (G := (fun K => xr_back K 25 xm_i25 xm_I25 0 0 13 [(0, .ref 2), (1, .int a1), (2, .int a2)] [] 78 true (K (103, xm_i103, xm_I103, 0, 0, 0, [(0, .ref 7), (1, .long (t_model_name a1.toNatClampNeg))], [], xw_W (xy_a (xy_a (xy_a (xy_a (xy_a A 9 t_kinds_mayBeNothing) 8 t_kinds_sort) 18 t_model_size) 20 t_model_sort) 21 t_model_value) (xy_l (xy_l L 6 t_kinds_name) 17 t_model_name) (xy_s S 5 0 t_kinds_total))))) (fun K => rfl) ?_
  obtain ⟨q1523, hq1523, h⟩ := Option.bind_eq_some_iff.mp h
  have heq1523 := xh_kd_find_5 (l := l) (g := g) ok (xy_a (xy_a (xy_a (xy_a (xy_a A 9 t_kinds_mayBeNothing) 8 t_kinds_sort) 18 t_model_size) 20 t_model_sort) 21 t_model_value) (xy_l (xy_l L 6 t_kinds_name) 17 t_model_name) (xy_s S 5 0 t_kinds_total) t_kinds_name t_kinds_total n (t_model_name a1.toNatClampNeg) _ hq1523
  refine xe_call1 (ws' := xw_W (xy_a (xy_a (xy_a (xy_a (xy_a A 9 t_kinds_mayBeNothing) 8 t_kinds_sort) 18 t_model_size) 20 t_model_sort) 21 t_model_value) (xy_l (xy_l L 6 t_kinds_name) 17 t_model_name) (xy_s S 5 0 t_kinds_total)) (by decide) heq1523 (Or.inl rfl) ?_
  refine xe_seg ok 4 (G := (fun K => if a2 = ((3 : Int32)) then K (25, xm_i25, xm_I25, 0, 0, 22, [(0, .ref 2), (1, .int a1), (2, .int a2), (3, .int q1523)], [], xw_W (xy_a (xy_a (xy_a (xy_a (xy_a A 9 t_kinds_mayBeNothing) 8 t_kinds_sort) 18 t_model_size) 20 t_model_sort) 21 t_model_value) (xy_l (xy_l L 6 t_kinds_name) 17 t_model_name) (xy_s S 5 0 t_kinds_total)) else K (25, xm_i25, xm_I25, 0, 0, 27, [(0, .ref 2), (1, .int a1), (2, .int a2), (3, .int q1523)], [], xw_W (xy_a (xy_a (xy_a (xy_a (xy_a A 9 t_kinds_mayBeNothing) 8 t_kinds_sort) 18 t_model_size) 20 t_model_sort) 21 t_model_value) (xy_l (xy_l L 6 t_kinds_name) 17 t_model_name) (xy_s S 5 0 t_kinds_total)))) (fun K => rfl) ?_
  rcases xb_if h with ⟨hc1524, h⟩ | ⟨hc1524, h⟩
  · refine xe_pos hc1524 (xe_k ?_)
    refine xe_seg ok 3 (G := (fun K => if q1523 = ((-1 : Int32)) then K (25, xm_i25, xm_I25, 0, 0, 27, [(0, .ref 2), (1, .int a1), (2, .int a2), (3, .int q1523)], [], xw_W (xy_a (xy_a (xy_a (xy_a (xy_a A 9 t_kinds_mayBeNothing) 8 t_kinds_sort) 18 t_model_size) 20 t_model_sort) 21 t_model_value) (xy_l (xy_l L 6 t_kinds_name) 17 t_model_name) (xy_s S 5 0 t_kinds_total)) else K (25, xm_i25, xm_I25, 0, 0, 29, [(0, .ref 2), (1, .int a1), (2, .int a2), (3, .int q1523)], [], xw_W (xy_a (xy_a (xy_a (xy_a (xy_a A 9 t_kinds_mayBeNothing) 8 t_kinds_sort) 18 t_model_size) 20 t_model_sort) 21 t_model_value) (xy_l (xy_l L 6 t_kinds_name) 17 t_model_name) (xy_s S 5 0 t_kinds_total)))) (fun K => rfl) ?_
    rcases xb_if h with ⟨hc1525, h⟩ | ⟨hc1525, h⟩
    · refine xe_pos hc1525 (xe_k ?_)
      refine xe_sub [false, false, false, false] (lv' := []) rfl ?_
      exact xh_xt_misfitOf_0_27 ok A L S t_kinds_mayBeNothing t_kinds_name t_kinds_sort t_kinds_total t_model_name t_model_size t_model_sort t_model_value n _ h
    · refine xe_neg hc1525 (xe_k ?_)
      refine xe_seg ok 2 (G := (fun K => K (25, xm_i25, xm_I25, 0, 0, 32, [(0, .ref 2), (1, .int a1), (2, .int a2), (3, .int q1523), (4, .int ((0 : Int32)))], [], xw_W (xy_a (xy_a (xy_a (xy_a (xy_a A 9 t_kinds_mayBeNothing) 8 t_kinds_sort) 18 t_model_size) 20 t_model_sort) 21 t_model_value) (xy_l (xy_l L 6 t_kinds_name) 17 t_model_name) (xy_s S 5 0 t_kinds_total)))) (fun K => rfl) ?_
      refine xe_k ?_
      refine xe_sub [true, true, false, true, true] (lv' := [(0, .ref 2), (1, .int a1), (3, .int q1523), (4, .int ((0 : Int32)))]) rfl ?_
      exact xh_xt_misfitOf_0_32 ok A L S t_kinds_mayBeNothing t_kinds_name t_kinds_sort t_kinds_total t_model_name t_model_size t_model_sort t_model_value n n a1 q1523 ((0 : Int32)) _ h
  · refine xe_neg hc1524 (xe_k ?_)
    refine xe_sub [false, false, false, false] (lv' := []) rfl ?_
    exact xh_xt_misfitOf_0_27 ok A L S t_kinds_mayBeNothing t_kinds_name t_kinds_sort t_kinds_total t_model_name t_model_size t_model_sort t_model_value n _ h
theorem xh_xt_whyWrong_0_62 {l : Launch} {g : xr_G} (ok : xr_OK xm_P) (A : Nat → Nat → Int32) (L : Nat → Nat → Int64) (S : Nat → Nat → Int32) (t_kinds_mayBeNothing : (Nat → Int32)) (t_kinds_name : (Nat → Int64)) (t_kinds_size : (Nat → Int32)) (t_kinds_sort : (Nat → Int32)) (t_kinds_total : Int32) (t_model_name : (Nat → Int64)) (t_model_size : (Nat → Int32)) (t_model_sort : (Nat → Int32)) (t_model_value : (Nat → Int32)) (n : Nat) : ∀ (s0 : Int32) (r : (Int32)), xf_xt_whyWrong_62 t_kinds_mayBeNothing t_kinds_name t_kinds_size t_kinds_sort t_kinds_total t_model_name t_model_size t_model_sort t_model_value n s0 = some r → xV xm_P l g (24, xm_i24, xm_I24, 0, 0, 62, [], [.int s0], xw_W (xy_a (xy_a (xy_a (xy_a (xy_a (xy_a A 9 t_kinds_mayBeNothing) 7 t_kinds_size) 8 t_kinds_sort) 18 t_model_size) 20 t_model_sort) 21 t_model_value) (xy_l (xy_l L 6 t_kinds_name) 17 t_model_name) (xy_s S 5 0 t_kinds_total)) (.inl (some (.int r)), xw_W (xy_a (xy_a (xy_a (xy_a (xy_a (xy_a A 9 t_kinds_mayBeNothing) 7 t_kinds_size) 8 t_kinds_sort) 18 t_model_size) 20 t_model_sort) 21 t_model_value) (xy_l (xy_l L 6 t_kinds_name) 17 t_model_name) (xy_s S 5 0 t_kinds_total)) := by
  intro s0 r h
  unfold xf_xt_whyWrong_62 at h
  obtain rfl := Option.some.inj h
  refine xe_seg ok 1 (G := (fun _ => some (.inl (some (.int s0)), xw_W (xy_a (xy_a (xy_a (xy_a (xy_a (xy_a A 9 t_kinds_mayBeNothing) 7 t_kinds_size) 8 t_kinds_sort) 18 t_model_size) 20 t_model_sort) 21 t_model_value) (xy_l (xy_l L 6 t_kinds_name) 17 t_model_name) (xy_s S 5 0 t_kinds_total)))) (fun K => rfl) ?_
  exact xe_ret
theorem xh_xt_whyWrong_0 {l : Launch} {g : xr_G} (ok : xr_OK xm_P) (A : Nat → Nat → Int32) (L : Nat → Nat → Int64) (S : Nat → Nat → Int32) (t_kinds_mayBeNothing : (Nat → Int32)) (t_kinds_name : (Nat → Int64)) (t_kinds_size : (Nat → Int32)) (t_kinds_sort : (Nat → Int32)) (t_kinds_total : Int32) (t_model_name : (Nat → Int64)) (t_model_size : (Nat → Int32)) (t_model_sort : (Nat → Int32)) (t_model_value : (Nat → Int32)) (n : Nat) : ∀ (a1 : Int32) (r : (Int32)), xf_xt_whyWrong t_kinds_mayBeNothing t_kinds_name t_kinds_size t_kinds_sort t_kinds_total t_model_name t_model_size t_model_sort t_model_value n a1 = some r → xV xm_P l g (24, xm_i24, xm_I24, 0, 0, 0, [(0, .ref 2), (1, .int a1)], [], xw_W (xy_a (xy_a (xy_a (xy_a (xy_a (xy_a A 9 t_kinds_mayBeNothing) 7 t_kinds_size) 8 t_kinds_sort) 18 t_model_size) 20 t_model_sort) 21 t_model_value) (xy_l (xy_l L 6 t_kinds_name) 17 t_model_name) (xy_s S 5 0 t_kinds_total)) (.inl (some (.int r)), xw_W (xy_a (xy_a (xy_a (xy_a (xy_a (xy_a A 9 t_kinds_mayBeNothing) 7 t_kinds_size) 8 t_kinds_sort) 18 t_model_size) 20 t_model_sort) 21 t_model_value) (xy_l (xy_l L 6 t_kinds_name) 17 t_model_name) (xy_s S 5 0 t_kinds_total)) := by
  intro a1 r h
  unfold xf_xt_whyWrong at h
  refine xe_seg ok 7 (G := (fun K => if xr_in a1 40 = true then K (24, xm_i24, xm_I24, 0, 0, 13, [(0, .ref 2), (1, .int a1)], [.long (t_model_name a1.toNatClampNeg), .ref 7], xw_W (xy_a (xy_a (xy_a (xy_a (xy_a (xy_a A 9 t_kinds_mayBeNothing) 7 t_kinds_size) 8 t_kinds_sort) 18 t_model_size) 20 t_model_sort) 21 t_model_value) (xy_l (xy_l L 6 t_kinds_name) 17 t_model_name) (xy_s S 5 0 t_kinds_total)) else none)) (fun K => rfl) ?_
  obtain ⟨hg1516, h⟩ := xn_if h
  refine xe_pos hg1516 (xe_k ?_)
  refine xe_seg ok 1 (G := (fun K => xr_back K 24 xm_i24 xm_I24 0 0 13 [(0, .ref 2), (1, .int a1)] [] 78 true (K (103, xm_i103, xm_I103, 0, 0, 0, [(0, .ref 7), (1, .long (t_model_name a1.toNatClampNeg))], [], xw_W (xy_a (xy_a (xy_a (xy_a (xy_a (xy_a A 9 t_kinds_mayBeNothing) 7 t_kinds_size) 8 t_kinds_sort) 18 t_model_size) 20 t_model_sort) 21 t_model_value) (xy_l (xy_l L 6 t_kinds_name) 17 t_model_name) (xy_s S 5 0 t_kinds_total))))) (fun K => rfl) ?_
  obtain ⟨q1517, hq1517, h⟩ := Option.bind_eq_some_iff.mp h
  have heq1517 := xh_kd_find_5 (l := l) (g := g) ok (xy_a (xy_a (xy_a (xy_a (xy_a (xy_a A 9 t_kinds_mayBeNothing) 7 t_kinds_size) 8 t_kinds_sort) 18 t_model_size) 20 t_model_sort) 21 t_model_value) (xy_l (xy_l L 6 t_kinds_name) 17 t_model_name) (xy_s S 5 0 t_kinds_total) t_kinds_name t_kinds_total n (t_model_name a1.toNatClampNeg) _ hq1517
  refine xe_call1 (ws' := xw_W (xy_a (xy_a (xy_a (xy_a (xy_a (xy_a A 9 t_kinds_mayBeNothing) 7 t_kinds_size) 8 t_kinds_sort) 18 t_model_size) 20 t_model_sort) 21 t_model_value) (xy_l (xy_l L 6 t_kinds_name) 17 t_model_name) (xy_s S 5 0 t_kinds_total)) (by decide) heq1517 (Or.inl rfl) ?_
  refine xe_seg ok 4 (G := (fun K => if q1517 = ((-1 : Int32)) then K (24, xm_i24, xm_I24, 0, 0, 22, [(0, .ref 2), (1, .int a1), (2, .int q1517)], [], xw_W (xy_a (xy_a (xy_a (xy_a (xy_a (xy_a A 9 t_kinds_mayBeNothing) 7 t_kinds_size) 8 t_kinds_sort) 18 t_model_size) 20 t_model_sort) 21 t_model_value) (xy_l (xy_l L 6 t_kinds_name) 17 t_model_name) (xy_s S 5 0 t_kinds_total)) else K (24, xm_i24, xm_I24, 0, 0, 24, [(0, .ref 2), (1, .int a1), (2, .int q1517)], [], xw_W (xy_a (xy_a (xy_a (xy_a (xy_a (xy_a A 9 t_kinds_mayBeNothing) 7 t_kinds_size) 8 t_kinds_sort) 18 t_model_size) 20 t_model_sort) 21 t_model_value) (xy_l (xy_l L 6 t_kinds_name) 17 t_model_name) (xy_s S 5 0 t_kinds_total)))) (fun K => rfl) ?_
  rcases xb_if h with ⟨hc1518, h⟩ | ⟨hc1518, h⟩
  · refine xe_pos hc1518 (xe_k ?_)
    obtain rfl := Option.some.inj h
    refine xe_seg ok 2 (G := (fun _ => some (.inl (some (.int ((1 : Int32)))), xw_W (xy_a (xy_a (xy_a (xy_a (xy_a (xy_a A 9 t_kinds_mayBeNothing) 7 t_kinds_size) 8 t_kinds_sort) 18 t_model_size) 20 t_model_sort) 21 t_model_value) (xy_l (xy_l L 6 t_kinds_name) 17 t_model_name) (xy_s S 5 0 t_kinds_total)))) (fun K => rfl) ?_
    exact xe_ret
  · refine xe_neg hc1518 (xe_k ?_)
    refine xe_seg ok 5 (G := (fun K => if xr_in q1517 12 = true then K (24, xm_i24, xm_I24, 0, 0, 33, [(0, .ref 2), (1, .int a1), (2, .int q1517)], [.int (t_kinds_size q1517.toNatClampNeg)], xw_W (xy_a (xy_a (xy_a (xy_a (xy_a (xy_a A 9 t_kinds_mayBeNothing) 7 t_kinds_size) 8 t_kinds_sort) 18 t_model_size) 20 t_model_sort) 21 t_model_value) (xy_l (xy_l L 6 t_kinds_name) 17 t_model_name) (xy_s S 5 0 t_kinds_total)) else none)) (fun K => rfl) ?_
    obtain ⟨hg1519, h⟩ := xn_if h
    refine xe_pos hg1519 (xe_k ?_)
    refine xe_seg ok 5 (G := (fun K => if xr_in a1 40 = true then K (24, xm_i24, xm_I24, 0, 0, 42, [(0, .ref 2), (1, .int a1), (2, .int q1517)], [.int (t_model_size a1.toNatClampNeg), .int (t_kinds_size q1517.toNatClampNeg)], xw_W (xy_a (xy_a (xy_a (xy_a (xy_a (xy_a A 9 t_kinds_mayBeNothing) 7 t_kinds_size) 8 t_kinds_sort) 18 t_model_size) 20 t_model_sort) 21 t_model_value) (xy_l (xy_l L 6 t_kinds_name) 17 t_model_name) (xy_s S 5 0 t_kinds_total)) else none)) (fun K => rfl) ?_
    obtain ⟨hg1520, h⟩ := xn_if h
    refine xe_pos hg1520 (xe_k ?_)
    refine xe_seg ok 1 (G := (fun K => if (t_kinds_size q1517.toNatClampNeg) = (t_model_size a1.toNatClampNeg) then K (24, xm_i24, xm_I24, 0, 0, 47, [(0, .ref 2), (1, .int a1), (2, .int q1517)], [], xw_W (xy_a (xy_a (xy_a (xy_a (xy_a (xy_a A 9 t_kinds_mayBeNothing) 7 t_kinds_size) 8 t_kinds_sort) 18 t_model_size) 20 t_model_sort) 21 t_model_value) (xy_l (xy_l L 6 t_kinds_name) 17 t_model_name) (xy_s S 5 0 t_kinds_total)) else K (24, xm_i24, xm_I24, 0, 0, 45, [(0, .ref 2), (1, .int a1), (2, .int q1517)], [], xw_W (xy_a (xy_a (xy_a (xy_a (xy_a (xy_a A 9 t_kinds_mayBeNothing) 7 t_kinds_size) 8 t_kinds_sort) 18 t_model_size) 20 t_model_sort) 21 t_model_value) (xy_l (xy_l L 6 t_kinds_name) 17 t_model_name) (xy_s S 5 0 t_kinds_total)))) (fun K => rfl) ?_
    rcases xb_if h with ⟨hc1521, h⟩ | ⟨hc1521, h⟩
    · refine xe_pos hc1521 (xe_k ?_)
      refine xe_seg ok 4 (G := (fun K => xr_back K 24 xm_i24 xm_I24 0 0 50 [(0, .ref 2), (1, .int a1), (2, .int q1517)] [] 78 true (K (25, xm_i25, xm_I25, 0, 0, 0, [(0, .ref 2), (1, .int a1), (2, .int ((3 : Int32)))], [], xw_W (xy_a (xy_a (xy_a (xy_a (xy_a (xy_a A 9 t_kinds_mayBeNothing) 7 t_kinds_size) 8 t_kinds_sort) 18 t_model_size) 20 t_model_sort) 21 t_model_value) (xy_l (xy_l L 6 t_kinds_name) 17 t_model_name) (xy_s S 5 0 t_kinds_total))))) (fun K => rfl) ?_
      obtain ⟨q1542, hq1542, h⟩ := Option.bind_eq_some_iff.mp h
      have heq1542 := xh_xt_misfitOf_0 (l := l) (g := g) ok (xy_a (xy_a (xy_a (xy_a (xy_a (xy_a A 9 t_kinds_mayBeNothing) 7 t_kinds_size) 8 t_kinds_sort) 18 t_model_size) 20 t_model_sort) 21 t_model_value) (xy_l (xy_l L 6 t_kinds_name) 17 t_model_name) (xy_s S 5 0 t_kinds_total) t_kinds_mayBeNothing t_kinds_name t_kinds_sort t_kinds_total t_model_name t_model_size t_model_sort t_model_value n a1 ((3 : Int32)) _ hq1542
      refine xe_call1 (ws' := xw_W (xy_a (xy_a (xy_a (xy_a (xy_a (xy_a A 9 t_kinds_mayBeNothing) 7 t_kinds_size) 8 t_kinds_sort) 18 t_model_size) 20 t_model_sort) 21 t_model_value) (xy_l (xy_l L 6 t_kinds_name) 17 t_model_name) (xy_s S 5 0 t_kinds_total)) (by decide) heq1542 (Or.inl rfl) ?_
      refine xe_seg ok 2 (G := (fun K => if q1542 = ((-1 : Int32)) then K (24, xm_i24, xm_I24, 0, 0, 57, [(0, .ref 2), (1, .int a1), (2, .int q1517)], [], xw_W (xy_a (xy_a (xy_a (xy_a (xy_a (xy_a A 9 t_kinds_mayBeNothing) 7 t_kinds_size) 8 t_kinds_sort) 18 t_model_size) 20 t_model_sort) 21 t_model_value) (xy_l (xy_l L 6 t_kinds_name) 17 t_model_name) (xy_s S 5 0 t_kinds_total)) else K (24, xm_i24, xm_I24, 0, 0, 61, [(0, .ref 2), (1, .int a1), (2, .int q1517)], [], xw_W (xy_a (xy_a (xy_a (xy_a (xy_a (xy_a A 9 t_kinds_mayBeNothing) 7 t_kinds_size) 8 t_kinds_sort) 18 t_model_size) 20 t_model_sort) 21 t_model_value) (xy_l (xy_l L 6 t_kinds_name) 17 t_model_name) (xy_s S 5 0 t_kinds_total)))) (fun K => rfl) ?_
      rcases xb_if h with ⟨hc1543, h⟩ | ⟨hc1543, h⟩
      · refine xe_pos hc1543 (xe_k ?_)
        refine xe_seg ok 2 (G := (fun K => K (24, xm_i24, xm_I24, 0, 0, 62, [(0, .ref 2), (1, .int a1), (2, .int q1517)], [.int ((0 : Int32))], xw_W (xy_a (xy_a (xy_a (xy_a (xy_a (xy_a A 9 t_kinds_mayBeNothing) 7 t_kinds_size) 8 t_kinds_sort) 18 t_model_size) 20 t_model_sort) 21 t_model_value) (xy_l (xy_l L 6 t_kinds_name) 17 t_model_name) (xy_s S 5 0 t_kinds_total)))) (fun K => rfl) ?_
        refine xe_k ?_
        refine xe_sub [false, false, false] (lv' := []) rfl ?_
        exact xh_xt_whyWrong_0_62 ok A L S t_kinds_mayBeNothing t_kinds_name t_kinds_size t_kinds_sort t_kinds_total t_model_name t_model_size t_model_sort t_model_value n ((0 : Int32)) _ h
      · refine xe_neg hc1543 (xe_k ?_)
        refine xe_seg ok 1 (G := (fun K => K (24, xm_i24, xm_I24, 0, 0, 62, [(0, .ref 2), (1, .int a1), (2, .int q1517)], [.int ((3 : Int32))], xw_W (xy_a (xy_a (xy_a (xy_a (xy_a (xy_a A 9 t_kinds_mayBeNothing) 7 t_kinds_size) 8 t_kinds_sort) 18 t_model_size) 20 t_model_sort) 21 t_model_value) (xy_l (xy_l L 6 t_kinds_name) 17 t_model_name) (xy_s S 5 0 t_kinds_total)))) (fun K => rfl) ?_
        refine xe_k ?_
        refine xe_sub [false, false, false] (lv' := []) rfl ?_
        exact xh_xt_whyWrong_0_62 ok A L S t_kinds_mayBeNothing t_kinds_name t_kinds_size t_kinds_sort t_kinds_total t_model_name t_model_size t_model_sort t_model_value n ((3 : Int32)) _ h
    · refine xe_neg hc1521 (xe_k ?_)
      obtain rfl := Option.some.inj h
      refine xe_seg ok 2 (G := (fun _ => some (.inl (some (.int ((2 : Int32)))), xw_W (xy_a (xy_a (xy_a (xy_a (xy_a (xy_a A 9 t_kinds_mayBeNothing) 7 t_kinds_size) 8 t_kinds_sort) 18 t_model_size) 20 t_model_sort) 21 t_model_value) (xy_l (xy_l L 6 t_kinds_name) 17 t_model_name) (xy_s S 5 0 t_kinds_total)))) (fun K => rfl) ?_
      exact xe_ret
theorem xh_xt_wrong_0_111 {l : Launch} {g : xr_G} (ok : xr_OK xm_P) (A : Nat → Nat → Int32) (L : Nat → Nat → Int64) (S : Nat → Nat → Int32) (t_kinds_mayBeNothing : (Nat → Int32)) (t_kinds_name : (Nat → Int64)) (t_kinds_size : (Nat → Int32)) (t_kinds_sort : (Nat → Int32)) (t_kinds_total : Int32) (t_model_lines : Int32) (t_model_name : (Nat → Int64)) (t_model_number : (Nat → Int32)) (t_model_order : (Nat → Int32)) (t_model_size : (Nat → Int32)) (t_model_sort : (Nat → Int32)) (t_model_value : (Nat → Int32)) {k26 : Int32 → Int32 → Int32 → Option ((Int32 ⊕ String))} (hk26 : ∀ (v2 : Int32) (v3 : Int32) (v4 : Int32) (r : ((Int32 ⊕ String))), k26 v2 v3 v4 = some r → xV xm_P l g (13, xm_i13, xm_I13, 1, 6, 26, [(0, .ref 2), (2, .int v2), (3, .int v3), (4, .int v4)], [], xw_W (xy_a (xy_a (xy_a (xy_a (xy_a (xy_a (xy_a (xy_a A 9 t_kinds_mayBeNothing) 7 t_kinds_size) 8 t_kinds_sort) 16 t_model_number) 19 t_model_order) 18 t_model_size) 20 t_model_sort) 21 t_model_value) (xy_l (xy_l L 6 t_kinds_name) 17 t_model_name) (xy_s (xy_s S 5 0 t_kinds_total) 15 1 t_model_lines)) (xo_i r, xw_W (xy_a (xy_a (xy_a (xy_a (xy_a (xy_a (xy_a (xy_a A 9 t_kinds_mayBeNothing) 7 t_kinds_size) 8 t_kinds_sort) 16 t_model_number) 19 t_model_order) 18 t_model_size) 20 t_model_sort) 21 t_model_value) (xy_l (xy_l L 6 t_kinds_name) 17 t_model_name) (xy_s (xy_s S 5 0 t_kinds_total) 15 1 t_model_lines))) (n : Nat) : ∀ (v2 : Int32) (v4 : Int32) (s0 : Int32) (s1 : Int32) (r : ((Int32 ⊕ String))), xf_xt_wrong_111 t_kinds_mayBeNothing t_kinds_name t_kinds_size t_kinds_sort t_kinds_total t_model_lines t_model_name t_model_number t_model_order t_model_size t_model_sort t_model_value k26 n v2 v4 s0 s1 = some r → xV xm_P l g (13, xm_i13, xm_I13, 1, 6, 111, [(0, .ref 2), (2, .int v2), (4, .int v4)], [.int s1, .int s0], xw_W (xy_a (xy_a (xy_a (xy_a (xy_a (xy_a (xy_a (xy_a A 9 t_kinds_mayBeNothing) 7 t_kinds_size) 8 t_kinds_sort) 16 t_model_number) 19 t_model_order) 18 t_model_size) 20 t_model_sort) 21 t_model_value) (xy_l (xy_l L 6 t_kinds_name) 17 t_model_name) (xy_s (xy_s S 5 0 t_kinds_total) 15 1 t_model_lines)) (xo_i r, xw_W (xy_a (xy_a (xy_a (xy_a (xy_a (xy_a (xy_a (xy_a A 9 t_kinds_mayBeNothing) 7 t_kinds_size) 8 t_kinds_sort) 16 t_model_number) 19 t_model_order) 18 t_model_size) 20 t_model_sort) 21 t_model_value) (xy_l (xy_l L 6 t_kinds_name) 17 t_model_name) (xy_s (xy_s S 5 0 t_kinds_total) 15 1 t_model_lines)) := by
  intro v2 v4 s0 s1 r h
  unfold xf_xt_wrong_111 at h
  refine xe_seg ok 4 (G := (fun K => K (13, xm_i13, xm_I13, 1, 6, 26, [(0, .ref 2), (2, .int v2), (3, .int (s0 - s1)), (4, .int (v4 + (1 : Int32)))], [], xw_W (xy_a (xy_a (xy_a (xy_a (xy_a (xy_a (xy_a (xy_a A 9 t_kinds_mayBeNothing) 7 t_kinds_size) 8 t_kinds_sort) 16 t_model_number) 19 t_model_order) 18 t_model_size) 20 t_model_sort) 21 t_model_value) (xy_l (xy_l L 6 t_kinds_name) 17 t_model_name) (xy_s (xy_s S 5 0 t_kinds_total) 15 1 t_model_lines)))) (fun K => rfl) ?_
  refine xe_k ?_
  refine xe_sub [true, true, true, true] (lv' := [(0, .ref 2), (2, .int v2), (3, .int (s0 - s1)), (4, .int (v4 + (1 : Int32)))]) rfl ?_
  exact hk26 v2 (s0 - s1) (v4 + (1 : Int32)) _ h
theorem xh_xt_wrong_0_100 {l : Launch} {g : xr_G} (ok : xr_OK xm_P) (A : Nat → Nat → Int32) (L : Nat → Nat → Int64) (S : Nat → Nat → Int32) (t_kinds_mayBeNothing : (Nat → Int32)) (t_kinds_name : (Nat → Int64)) (t_kinds_size : (Nat → Int32)) (t_kinds_sort : (Nat → Int32)) (t_kinds_total : Int32) (t_model_lines : Int32) (t_model_name : (Nat → Int64)) (t_model_number : (Nat → Int32)) (t_model_order : (Nat → Int32)) (t_model_size : (Nat → Int32)) (t_model_sort : (Nat → Int32)) (t_model_value : (Nat → Int32)) {k26 : Int32 → Int32 → Int32 → Option ((Int32 ⊕ String))} (hk26 : ∀ (v2 : Int32) (v3 : Int32) (v4 : Int32) (r : ((Int32 ⊕ String))), k26 v2 v3 v4 = some r → xV xm_P l g (13, xm_i13, xm_I13, 1, 6, 26, [(0, .ref 2), (2, .int v2), (3, .int v3), (4, .int v4)], [], xw_W (xy_a (xy_a (xy_a (xy_a (xy_a (xy_a (xy_a (xy_a A 9 t_kinds_mayBeNothing) 7 t_kinds_size) 8 t_kinds_sort) 16 t_model_number) 19 t_model_order) 18 t_model_size) 20 t_model_sort) 21 t_model_value) (xy_l (xy_l L 6 t_kinds_name) 17 t_model_name) (xy_s (xy_s S 5 0 t_kinds_total) 15 1 t_model_lines)) (xo_i r, xw_W (xy_a (xy_a (xy_a (xy_a (xy_a (xy_a (xy_a (xy_a A 9 t_kinds_mayBeNothing) 7 t_kinds_size) 8 t_kinds_sort) 16 t_model_number) 19 t_model_order) 18 t_model_size) 20 t_model_sort) 21 t_model_value) (xy_l (xy_l L 6 t_kinds_name) 17 t_model_name) (xy_s (xy_s S 5 0 t_kinds_total) 15 1 t_model_lines))) (n : Nat) : ∀ (v2 : Int32) (v3 : Int32) (v4 : Int32) (v6 : Int32) (r : ((Int32 ⊕ String))), xf_xt_wrong_100 t_kinds_mayBeNothing t_kinds_name t_kinds_size t_kinds_sort t_kinds_total t_model_lines t_model_name t_model_number t_model_order t_model_size t_model_sort t_model_value k26 n v2 v3 v4 v6 = some r → xV xm_P l g (13, xm_i13, xm_I13, 1, 6, 100, [(0, .ref 2), (2, .int v2), (3, .int v3), (4, .int v4), (6, .int v6)], [], xw_W (xy_a (xy_a (xy_a (xy_a (xy_a (xy_a (xy_a (xy_a A 9 t_kinds_mayBeNothing) 7 t_kinds_size) 8 t_kinds_sort) 16 t_model_number) 19 t_model_order) 18 t_model_size) 20 t_model_sort) 21 t_model_value) (xy_l (xy_l L 6 t_kinds_name) 17 t_model_name) (xy_s (xy_s S 5 0 t_kinds_total) 15 1 t_model_lines)) (xo_i r, xw_W (xy_a (xy_a (xy_a (xy_a (xy_a (xy_a (xy_a (xy_a A 9 t_kinds_mayBeNothing) 7 t_kinds_size) 8 t_kinds_sort) 16 t_model_number) 19 t_model_order) 18 t_model_size) 20 t_model_sort) 21 t_model_value) (xy_l (xy_l L 6 t_kinds_name) 17 t_model_name) (xy_s (xy_s S 5 0 t_kinds_total) 15 1 t_model_lines)) := by
  intro v2 v3 v4 v6 r h
  unfold xf_xt_wrong_100 at h
  refine xe_seg ok 3 (G := (fun K => if v6 = (0 : Int32) then K (13, xm_i13, xm_I13, 1, 6, 110, [(0, .ref 2), (2, .int v2), (3, .int v3), (4, .int v4), (6, .int v6)], [.int v3], xw_W (xy_a (xy_a (xy_a (xy_a (xy_a (xy_a (xy_a (xy_a A 9 t_kinds_mayBeNothing) 7 t_kinds_size) 8 t_kinds_sort) 16 t_model_number) 19 t_model_order) 18 t_model_size) 20 t_model_sort) 21 t_model_value) (xy_l (xy_l L 6 t_kinds_name) 17 t_model_name) (xy_s (xy_s S 5 0 t_kinds_total) 15 1 t_model_lines)) else K (13, xm_i13, xm_I13, 1, 6, 106, [(0, .ref 2), (2, .int v2), (3, .int v3), (4, .int v4), (6, .int v6)], [.int v3], xw_W (xy_a (xy_a (xy_a (xy_a (xy_a (xy_a (xy_a (xy_a A 9 t_kinds_mayBeNothing) 7 t_kinds_size) 8 t_kinds_sort) 16 t_model_number) 19 t_model_order) 18 t_model_size) 20 t_model_sort) 21 t_model_value) (xy_l (xy_l L 6 t_kinds_name) 17 t_model_name) (xy_s (xy_s S 5 0 t_kinds_total) 15 1 t_model_lines)))) (fun K => rfl) ?_
  rcases xb_if h with ⟨hc1546, h⟩ | ⟨hc1546, h⟩
  · refine xe_pos hc1546 (xe_k ?_)
    refine xe_seg ok 1 (G := (fun K => K (13, xm_i13, xm_I13, 1, 6, 111, [(0, .ref 2), (2, .int v2), (3, .int v3), (4, .int v4), (6, .int v6)], [.int ((0 : Int32)), .int v3], xw_W (xy_a (xy_a (xy_a (xy_a (xy_a (xy_a (xy_a (xy_a A 9 t_kinds_mayBeNothing) 7 t_kinds_size) 8 t_kinds_sort) 16 t_model_number) 19 t_model_order) 18 t_model_size) 20 t_model_sort) 21 t_model_value) (xy_l (xy_l L 6 t_kinds_name) 17 t_model_name) (xy_s (xy_s S 5 0 t_kinds_total) 15 1 t_model_lines)))) (fun K => rfl) ?_
    refine xe_k ?_
    refine xe_sub [true, true, false, true, false] (lv' := [(0, .ref 2), (2, .int v2), (4, .int v4)]) rfl ?_
    exact xh_xt_wrong_0_111 ok A L S t_kinds_mayBeNothing t_kinds_name t_kinds_size t_kinds_sort t_kinds_total t_model_lines t_model_name t_model_number t_model_order t_model_size t_model_sort t_model_value hk26 n v2 v4 v3 ((0 : Int32)) _ h
  · refine xe_neg hc1546 (xe_k ?_)
    refine xe_seg ok 2 (G := (fun K => K (13, xm_i13, xm_I13, 1, 6, 111, [(0, .ref 2), (2, .int v2), (3, .int v3), (4, .int v4), (6, .int v6)], [.int ((1 : Int32)), .int v3], xw_W (xy_a (xy_a (xy_a (xy_a (xy_a (xy_a (xy_a (xy_a A 9 t_kinds_mayBeNothing) 7 t_kinds_size) 8 t_kinds_sort) 16 t_model_number) 19 t_model_order) 18 t_model_size) 20 t_model_sort) 21 t_model_value) (xy_l (xy_l L 6 t_kinds_name) 17 t_model_name) (xy_s (xy_s S 5 0 t_kinds_total) 15 1 t_model_lines)))) (fun K => rfl) ?_
    refine xe_k ?_
    refine xe_sub [true, true, false, true, false] (lv' := [(0, .ref 2), (2, .int v2), (4, .int v4)]) rfl ?_
    exact xh_xt_wrong_0_111 ok A L S t_kinds_mayBeNothing t_kinds_name t_kinds_size t_kinds_sort t_kinds_total t_model_lines t_model_name t_model_number t_model_order t_model_size t_model_sort t_model_value hk26 n v2 v4 v3 ((1 : Int32)) _ h
theorem xh_xt_wrong_0_99 {l : Launch} {g : xr_G} (ok : xr_OK xm_P) (A : Nat → Nat → Int32) (L : Nat → Nat → Int64) (S : Nat → Nat → Int32) (t_kinds_mayBeNothing : (Nat → Int32)) (t_kinds_name : (Nat → Int64)) (t_kinds_size : (Nat → Int32)) (t_kinds_sort : (Nat → Int32)) (t_kinds_total : Int32) (t_model_lines : Int32) (t_model_name : (Nat → Int64)) (t_model_number : (Nat → Int32)) (t_model_order : (Nat → Int32)) (t_model_size : (Nat → Int32)) (t_model_sort : (Nat → Int32)) (t_model_value : (Nat → Int32)) (n : Nat) : ∀ (s0 : Int32) (r : ((Int32 ⊕ String))), xf_xt_wrong_99 t_kinds_mayBeNothing t_kinds_name t_kinds_size t_kinds_sort t_kinds_total t_model_lines t_model_name t_model_number t_model_order t_model_size t_model_sort t_model_value n s0 = some r → xV xm_P l g (13, xm_i13, xm_I13, 1, 6, 99, [], [.int s0], xw_W (xy_a (xy_a (xy_a (xy_a (xy_a (xy_a (xy_a (xy_a A 9 t_kinds_mayBeNothing) 7 t_kinds_size) 8 t_kinds_sort) 16 t_model_number) 19 t_model_order) 18 t_model_size) 20 t_model_sort) 21 t_model_value) (xy_l (xy_l L 6 t_kinds_name) 17 t_model_name) (xy_s (xy_s S 5 0 t_kinds_total) 15 1 t_model_lines)) (xo_i r, xw_W (xy_a (xy_a (xy_a (xy_a (xy_a (xy_a (xy_a (xy_a A 9 t_kinds_mayBeNothing) 7 t_kinds_size) 8 t_kinds_sort) 16 t_model_number) 19 t_model_order) 18 t_model_size) 20 t_model_sort) 21 t_model_value) (xy_l (xy_l L 6 t_kinds_name) 17 t_model_name) (xy_s (xy_s S 5 0 t_kinds_total) 15 1 t_model_lines)) := by
  intro s0 r h
  unfold xf_xt_wrong_99 at h
  obtain rfl := Option.some.inj h
  refine xe_seg ok 1 (G := (fun _ => some (.inl (some (.int s0)), xw_W (xy_a (xy_a (xy_a (xy_a (xy_a (xy_a (xy_a (xy_a A 9 t_kinds_mayBeNothing) 7 t_kinds_size) 8 t_kinds_sort) 16 t_model_number) 19 t_model_order) 18 t_model_size) 20 t_model_sort) 21 t_model_value) (xy_l (xy_l L 6 t_kinds_name) 17 t_model_name) (xy_s (xy_s S 5 0 t_kinds_total) 15 1 t_model_lines)))) (fun K => rfl) ?_
  exact xe_ret
theorem xh_xt_wrong_0_26 {l : Launch} {g : xr_G} (ok : xr_OK xm_P) (A : Nat → Nat → Int32) (L : Nat → Nat → Int64) (S : Nat → Nat → Int32) (t_kinds_mayBeNothing : (Nat → Int32)) (t_kinds_name : (Nat → Int64)) (t_kinds_size : (Nat → Int32)) (t_kinds_sort : (Nat → Int32)) (t_kinds_total : Int32) (t_model_lines : Int32) (t_model_name : (Nat → Int64)) (t_model_number : (Nat → Int32)) (t_model_order : (Nat → Int32)) (t_model_size : (Nat → Int32)) (t_model_sort : (Nat → Int32)) (t_model_value : (Nat → Int32)) (n : Nat) : ∀ (N : Nat) (v2 : Int32) (v3 : Int32) (v4 : Int32) (r : ((Int32 ⊕ String))), xf_xt_wrong_26 t_kinds_mayBeNothing t_kinds_name t_kinds_size t_kinds_sort t_kinds_total t_model_lines t_model_name t_model_number t_model_order t_model_size t_model_sort t_model_value n N v2 v3 v4 = some r → xV xm_P l g (13, xm_i13, xm_I13, 1, 6, 26, [(0, .ref 2), (2, .int v2), (3, .int v3), (4, .int v4)], [], xw_W (xy_a (xy_a (xy_a (xy_a (xy_a (xy_a (xy_a (xy_a A 9 t_kinds_mayBeNothing) 7 t_kinds_size) 8 t_kinds_sort) 16 t_model_number) 19 t_model_order) 18 t_model_size) 20 t_model_sort) 21 t_model_value) (xy_l (xy_l L 6 t_kinds_name) 17 t_model_name) (xy_s (xy_s S 5 0 t_kinds_total) 15 1 t_model_lines)) (xo_i r, xw_W (xy_a (xy_a (xy_a (xy_a (xy_a (xy_a (xy_a (xy_a A 9 t_kinds_mayBeNothing) 7 t_kinds_size) 8 t_kinds_sort) 16 t_model_number) 19 t_model_order) 18 t_model_size) 20 t_model_sort) 21 t_model_value) (xy_l (xy_l L 6 t_kinds_name) 17 t_model_name) (xy_s (xy_s S 5 0 t_kinds_total) 15 1 t_model_lines)) := by
  intro N
  induction N with
  | zero => intro v2 v3 v4 r h; cases h
  | succ N hk26 =>
    intro v2 v3 v4 r h
    refine xe_seg ok 5 (G := (fun K => if v4 < t_model_lines then K (13, xm_i13, xm_I13, 1, 6, 38, [(0, .ref 2), (2, .int v2), (3, .int v3), (4, .int v4)], [], xw_W (xy_a (xy_a (xy_a (xy_a (xy_a (xy_a (xy_a (xy_a A 9 t_kinds_mayBeNothing) 7 t_kinds_size) 8 t_kinds_sort) 16 t_model_number) 19 t_model_order) 18 t_model_size) 20 t_model_sort) 21 t_model_value) (xy_l (xy_l L 6 t_kinds_name) 17 t_model_name) (xy_s (xy_s S 5 0 t_kinds_total) 15 1 t_model_lines)) else K (13, xm_i13, xm_I13, 1, 6, 119, [(0, .ref 2), (2, .int v2), (3, .int v3), (4, .int v4)], [], xw_W (xy_a (xy_a (xy_a (xy_a (xy_a (xy_a (xy_a (xy_a A 9 t_kinds_mayBeNothing) 7 t_kinds_size) 8 t_kinds_sort) 16 t_model_number) 19 t_model_order) 18 t_model_size) 20 t_model_sort) 21 t_model_value) (xy_l (xy_l L 6 t_kinds_name) 17 t_model_name) (xy_s (xy_s S 5 0 t_kinds_total) 15 1 t_model_lines)))) (fun K => rfl) ?_
    rcases xb_if h with ⟨hc1514, h⟩ | ⟨hc1514, h⟩
    · refine xe_pos hc1514 (xe_k ?_)
      refine xe_seg ok 4 (G := (fun K => xr_back K 13 xm_i13 xm_I13 1 6 44 [(0, .ref 2), (2, .int v2), (3, .int v3), (4, .int v4)] [] 78 true (K (113, xm_i113, xm_I113, 0, 0, 0, [(0, .ref 17), (1, .int v4)], [], xw_W (xy_a (xy_a (xy_a (xy_a (xy_a (xy_a (xy_a (xy_a A 9 t_kinds_mayBeNothing) 7 t_kinds_size) 8 t_kinds_sort) 16 t_model_number) 19 t_model_order) 18 t_model_size) 20 t_model_sort) 21 t_model_value) (xy_l (xy_l L 6 t_kinds_name) 17 t_model_name) (xy_s (xy_s S 5 0 t_kinds_total) 15 1 t_model_lines))))) (fun K => rfl) ?_
      obtain ⟨q1515, hq1515, h⟩ := Option.bind_eq_some_iff.mp h
      have heq1515 := xh_md_rowAt_15 (l := l) (g := g) ok (xy_a (xy_a (xy_a (xy_a (xy_a (xy_a (xy_a (xy_a A 9 t_kinds_mayBeNothing) 7 t_kinds_size) 8 t_kinds_sort) 16 t_model_number) 19 t_model_order) 18 t_model_size) 20 t_model_sort) 21 t_model_value) (xy_l (xy_l L 6 t_kinds_name) 17 t_model_name) (xy_s (xy_s S 5 0 t_kinds_total) 15 1 t_model_lines) t_model_lines t_model_order v4 _ hq1515
      refine xe_call1 (ws' := xw_W (xy_a (xy_a (xy_a (xy_a (xy_a (xy_a (xy_a (xy_a A 9 t_kinds_mayBeNothing) 7 t_kinds_size) 8 t_kinds_sort) 16 t_model_number) 19 t_model_order) 18 t_model_size) 20 t_model_sort) 21 t_model_value) (xy_l (xy_l L 6 t_kinds_name) 17 t_model_name) (xy_s (xy_s S 5 0 t_kinds_total) 15 1 t_model_lines)) (by decide) heq1515 (Or.inl rfl) ?_
      refine xe_seg ok 4 (G := (fun K => xr_back K 13 xm_i13 xm_I13 1 6 52 [(0, .ref 2), (2, .int v2), (3, .int v3), (4, .int v4), (5, .int q1515)] [] 78 true (K (24, xm_i24, xm_I24, 0, 0, 0, [(0, .ref 2), (1, .int q1515)], [], xw_W (xy_a (xy_a (xy_a (xy_a (xy_a (xy_a (xy_a (xy_a A 9 t_kinds_mayBeNothing) 7 t_kinds_size) 8 t_kinds_sort) 16 t_model_number) 19 t_model_order) 18 t_model_size) 20 t_model_sort) 21 t_model_value) (xy_l (xy_l L 6 t_kinds_name) 17 t_model_name) (xy_s (xy_s S 5 0 t_kinds_total) 15 1 t_model_lines))))) (fun K => rfl) ?_
      obtain ⟨q1544, hq1544, h⟩ := Option.bind_eq_some_iff.mp h
      have heq1544 := xh_xt_whyWrong_0 (l := l) (g := g) ok (xy_a (xy_a (xy_a (xy_a (xy_a (xy_a (xy_a (xy_a A 9 t_kinds_mayBeNothing) 7 t_kinds_size) 8 t_kinds_sort) 16 t_model_number) 19 t_model_order) 18 t_model_size) 20 t_model_sort) 21 t_model_value) (xy_l (xy_l L 6 t_kinds_name) 17 t_model_name) (xy_s (xy_s S 5 0 t_kinds_total) 15 1 t_model_lines) t_kinds_mayBeNothing t_kinds_name t_kinds_size t_kinds_sort t_kinds_total t_model_name t_model_size t_model_sort t_model_value n q1515 _ hq1544
      refine xe_call1 (ws' := xw_W (xy_a (xy_a (xy_a (xy_a (xy_a (xy_a (xy_a (xy_a A 9 t_kinds_mayBeNothing) 7 t_kinds_size) 8 t_kinds_sort) 16 t_model_number) 19 t_model_order) 18 t_model_size) 20 t_model_sort) 21 t_model_value) (xy_l (xy_l L 6 t_kinds_name) 17 t_model_name) (xy_s (xy_s S 5 0 t_kinds_total) 15 1 t_model_lines)) (by decide) heq1544 (Or.inl rfl) ?_
      refine xe_seg ok 3 (G := (fun K => if q1544 = (0 : Int32) then K (13, xm_i13, xm_I13, 1, 6, 100, [(0, .ref 2), (2, .int v2), (3, .int v3), (4, .int v4), (5, .int q1515), (6, .int q1544)], [], xw_W (xy_a (xy_a (xy_a (xy_a (xy_a (xy_a (xy_a (xy_a A 9 t_kinds_mayBeNothing) 7 t_kinds_size) 8 t_kinds_sort) 16 t_model_number) 19 t_model_order) 18 t_model_size) 20 t_model_sort) 21 t_model_value) (xy_l (xy_l L 6 t_kinds_name) 17 t_model_name) (xy_s (xy_s S 5 0 t_kinds_total) 15 1 t_model_lines)) else K (13, xm_i13, xm_I13, 1, 6, 62, [(0, .ref 2), (2, .int v2), (3, .int v3), (4, .int v4), (5, .int q1515), (6, .int q1544)], [], xw_W (xy_a (xy_a (xy_a (xy_a (xy_a (xy_a (xy_a (xy_a A 9 t_kinds_mayBeNothing) 7 t_kinds_size) 8 t_kinds_sort) 16 t_model_number) 19 t_model_order) 18 t_model_size) 20 t_model_sort) 21 t_model_value) (xy_l (xy_l L 6 t_kinds_name) 17 t_model_name) (xy_s (xy_s S 5 0 t_kinds_total) 15 1 t_model_lines)))) (fun K => rfl) ?_
      rcases xb_if h with ⟨hc1545, h⟩ | ⟨hc1545, h⟩
      · refine xe_pos hc1545 (xe_k ?_)
        refine xe_sub [true, true, true, true, false, true] (lv' := [(0, .ref 2), (2, .int v2), (3, .int v3), (4, .int v4), (6, .int q1544)]) rfl ?_
        exact xh_xt_wrong_0_100 ok A L S t_kinds_mayBeNothing t_kinds_name t_kinds_size t_kinds_sort t_kinds_total t_model_lines t_model_name t_model_number t_model_order t_model_size t_model_sort t_model_value hk26 n v2 v3 v4 q1544 _ h
      · refine xe_neg hc1545 (xe_k ?_)
        refine xe_seg ok 2 (G := (fun K => if v3 = (0 : Int32) then K (13, xm_i13, xm_I13, 1, 6, 66, [(0, .ref 2), (2, .int v2), (3, .int v3), (4, .int v4), (5, .int q1515), (6, .int q1544)], [], xw_W (xy_a (xy_a (xy_a (xy_a (xy_a (xy_a (xy_a (xy_a A 9 t_kinds_mayBeNothing) 7 t_kinds_size) 8 t_kinds_sort) 16 t_model_number) 19 t_model_order) 18 t_model_size) 20 t_model_sort) 21 t_model_value) (xy_l (xy_l L 6 t_kinds_name) 17 t_model_name) (xy_s (xy_s S 5 0 t_kinds_total) 15 1 t_model_lines)) else K (13, xm_i13, xm_I13, 1, 6, 100, [(0, .ref 2), (2, .int v2), (3, .int v3), (4, .int v4), (5, .int q1515), (6, .int q1544)], [], xw_W (xy_a (xy_a (xy_a (xy_a (xy_a (xy_a (xy_a (xy_a A 9 t_kinds_mayBeNothing) 7 t_kinds_size) 8 t_kinds_sort) 16 t_model_number) 19 t_model_order) 18 t_model_size) 20 t_model_sort) 21 t_model_value) (xy_l (xy_l L 6 t_kinds_name) 17 t_model_name) (xy_s (xy_s S 5 0 t_kinds_total) 15 1 t_model_lines)))) (fun K => rfl) ?_
        rcases xb_if h with ⟨hc1547, h⟩ | ⟨hc1547, h⟩
        · refine xe_pos hc1547 (xe_k ?_)
          refine xe_seg ok 2 (G := (fun K => if v2 = (0 : Int32) then K (13, xm_i13, xm_I13, 1, 6, 70, [(0, .ref 2), (2, .int v2), (3, .int v3), (4, .int v4), (5, .int q1515), (6, .int q1544)], [], xw_W (xy_a (xy_a (xy_a (xy_a (xy_a (xy_a (xy_a (xy_a A 9 t_kinds_mayBeNothing) 7 t_kinds_size) 8 t_kinds_sort) 16 t_model_number) 19 t_model_order) 18 t_model_size) 20 t_model_sort) 21 t_model_value) (xy_l (xy_l L 6 t_kinds_name) 17 t_model_name) (xy_s (xy_s S 5 0 t_kinds_total) 15 1 t_model_lines)) else K (13, xm_i13, xm_I13, 1, 6, 81, [(0, .ref 2), (2, .int v2), (3, .int v3), (4, .int v4), (5, .int q1515), (6, .int q1544)], [], xw_W (xy_a (xy_a (xy_a (xy_a (xy_a (xy_a (xy_a (xy_a A 9 t_kinds_mayBeNothing) 7 t_kinds_size) 8 t_kinds_sort) 16 t_model_number) 19 t_model_order) 18 t_model_size) 20 t_model_sort) 21 t_model_value) (xy_l (xy_l L 6 t_kinds_name) 17 t_model_name) (xy_s (xy_s S 5 0 t_kinds_total) 15 1 t_model_lines)))) (fun K => rfl) ?_
          rcases xb_if h with ⟨hc1548, h⟩ | ⟨hc1548, h⟩
          · refine xe_pos hc1548 (xe_k ?_)
            refine xe_seg ok 5 (G := (fun K => if xr_in q1515 40 = true then K (13, xm_i13, xm_I13, 1, 6, 80, [(0, .ref 2), (2, .int v2), (3, .int v3), (4, .int v4), (5, .int q1515), (6, .int q1544)], [.int (t_model_number q1515.toNatClampNeg)], xw_W (xy_a (xy_a (xy_a (xy_a (xy_a (xy_a (xy_a (xy_a A 9 t_kinds_mayBeNothing) 7 t_kinds_size) 8 t_kinds_sort) 16 t_model_number) 19 t_model_order) 18 t_model_size) 20 t_model_sort) 21 t_model_value) (xy_l (xy_l L 6 t_kinds_name) 17 t_model_name) (xy_s (xy_s S 5 0 t_kinds_total) 15 1 t_model_lines)) else none)) (fun K => rfl) ?_
            obtain ⟨hg1549, h⟩ := xn_if h
            refine xe_pos hg1549 (xe_k ?_)
            obtain rfl := Option.some.inj h
            refine xe_seg ok 1 (G := (fun _ => some (.inl (some (.int (t_model_number q1515.toNatClampNeg))), xw_W (xy_a (xy_a (xy_a (xy_a (xy_a (xy_a (xy_a (xy_a A 9 t_kinds_mayBeNothing) 7 t_kinds_size) 8 t_kinds_sort) 16 t_model_number) 19 t_model_order) 18 t_model_size) 20 t_model_sort) 21 t_model_value) (xy_l (xy_l L 6 t_kinds_name) 17 t_model_name) (xy_s (xy_s S 5 0 t_kinds_total) 15 1 t_model_lines)))) (fun K => rfl) ?_
            exact xe_ret
          · refine xe_neg hc1548 (xe_k ?_)
            refine xe_seg ok 3 (G := (fun K => if v2 = ((1 : Int32)) then K (13, xm_i13, xm_I13, 1, 6, 86, [(0, .ref 2), (2, .int v2), (3, .int v3), (4, .int v4), (5, .int q1515), (6, .int q1544)], [], xw_W (xy_a (xy_a (xy_a (xy_a (xy_a (xy_a (xy_a (xy_a A 9 t_kinds_mayBeNothing) 7 t_kinds_size) 8 t_kinds_sort) 16 t_model_number) 19 t_model_order) 18 t_model_size) 20 t_model_sort) 21 t_model_value) (xy_l (xy_l L 6 t_kinds_name) 17 t_model_name) (xy_s (xy_s S 5 0 t_kinds_total) 15 1 t_model_lines)) else K (13, xm_i13, xm_I13, 1, 6, 91, [(0, .ref 2), (2, .int v2), (3, .int v3), (4, .int v4), (5, .int q1515), (6, .int q1544)], [], xw_W (xy_a (xy_a (xy_a (xy_a (xy_a (xy_a (xy_a (xy_a A 9 t_kinds_mayBeNothing) 7 t_kinds_size) 8 t_kinds_sort) 16 t_model_number) 19 t_model_order) 18 t_model_size) 20 t_model_sort) 21 t_model_value) (xy_l (xy_l L 6 t_kinds_name) 17 t_model_name) (xy_s (xy_s S 5 0 t_kinds_total) 15 1 t_model_lines)))) (fun K => rfl) ?_
            rcases xb_if h with ⟨hc1550, h⟩ | ⟨hc1550, h⟩
            · refine xe_pos hc1550 (xe_k ?_)
              refine xe_seg ok 2 (G := (fun K => K (13, xm_i13, xm_I13, 1, 6, 99, [(0, .ref 2), (2, .int v2), (3, .int v3), (4, .int v4), (5, .int q1515), (6, .int q1544)], [.int q1544], xw_W (xy_a (xy_a (xy_a (xy_a (xy_a (xy_a (xy_a (xy_a A 9 t_kinds_mayBeNothing) 7 t_kinds_size) 8 t_kinds_sort) 16 t_model_number) 19 t_model_order) 18 t_model_size) 20 t_model_sort) 21 t_model_value) (xy_l (xy_l L 6 t_kinds_name) 17 t_model_name) (xy_s (xy_s S 5 0 t_kinds_total) 15 1 t_model_lines)))) (fun K => rfl) ?_
              refine xe_k ?_
              refine xe_sub [false, false, false, false, false, false] (lv' := []) rfl ?_
              exact xh_xt_wrong_0_99 ok A L S t_kinds_mayBeNothing t_kinds_name t_kinds_size t_kinds_sort t_kinds_total t_model_lines t_model_name t_model_number t_model_order t_model_size t_model_sort t_model_value n q1544 _ h
            · refine xe_neg hc1550 (xe_k ?_)
              refine xe_seg ok 4 (G := (fun K => xr_back K 13 xm_i13 xm_I13 1 6 96 [(0, .ref 2), (2, .int v2), (3, .int v3), (4, .int v4), (5, .int q1515), (6, .int q1544)] [] 78 true (K (25, xm_i25, xm_I25, 0, 0, 0, [(0, .ref 2), (1, .int q1515), (2, .int q1544)], [], xw_W (xy_a (xy_a (xy_a (xy_a (xy_a (xy_a (xy_a (xy_a A 9 t_kinds_mayBeNothing) 7 t_kinds_size) 8 t_kinds_sort) 16 t_model_number) 19 t_model_order) 18 t_model_size) 20 t_model_sort) 21 t_model_value) (xy_l (xy_l L 6 t_kinds_name) 17 t_model_name) (xy_s (xy_s S 5 0 t_kinds_total) 15 1 t_model_lines))))) (fun K => rfl) ?_
              obtain ⟨q1551, hq1551, h⟩ := Option.bind_eq_some_iff.mp h
              have heq1551 := xh_xt_misfitOf_0 (l := l) (g := g) ok (xy_a (xy_a (xy_a (xy_a (xy_a (xy_a (xy_a (xy_a A 9 t_kinds_mayBeNothing) 7 t_kinds_size) 8 t_kinds_sort) 16 t_model_number) 19 t_model_order) 18 t_model_size) 20 t_model_sort) 21 t_model_value) (xy_l (xy_l L 6 t_kinds_name) 17 t_model_name) (xy_s (xy_s S 5 0 t_kinds_total) 15 1 t_model_lines) t_kinds_mayBeNothing t_kinds_name t_kinds_sort t_kinds_total t_model_name t_model_size t_model_sort t_model_value n q1515 q1544 _ hq1551
              refine xe_call1 (ws' := xw_W (xy_a (xy_a (xy_a (xy_a (xy_a (xy_a (xy_a (xy_a A 9 t_kinds_mayBeNothing) 7 t_kinds_size) 8 t_kinds_sort) 16 t_model_number) 19 t_model_order) 18 t_model_size) 20 t_model_sort) 21 t_model_value) (xy_l (xy_l L 6 t_kinds_name) 17 t_model_name) (xy_s (xy_s S 5 0 t_kinds_total) 15 1 t_model_lines)) (by decide) heq1551 (Or.inl rfl) ?_
              refine xe_sub [false, false, false, false, false, false] (lv' := []) rfl ?_
              exact xh_xt_wrong_0_99 ok A L S t_kinds_mayBeNothing t_kinds_name t_kinds_size t_kinds_sort t_kinds_total t_model_lines t_model_name t_model_number t_model_order t_model_size t_model_sort t_model_value n q1551 _ h
        · refine xe_neg hc1547 (xe_k ?_)
          refine xe_sub [true, true, true, true, false, true] (lv' := [(0, .ref 2), (2, .int v2), (3, .int v3), (4, .int v4), (6, .int q1544)]) rfl ?_
          exact xh_xt_wrong_0_100 ok A L S t_kinds_mayBeNothing t_kinds_name t_kinds_size t_kinds_sort t_kinds_total t_model_lines t_model_name t_model_number t_model_order t_model_size t_model_sort t_model_value hk26 n v2 v3 v4 q1544 _ h
    · refine xe_neg hc1514 (xe_k ?_)
      obtain rfl := Option.some.inj h
      refine xe_seg ok 2 (G := (fun _ => some (.inl (some (.int ((-1 : Int32)))), xw_W (xy_a (xy_a (xy_a (xy_a (xy_a (xy_a (xy_a (xy_a A 9 t_kinds_mayBeNothing) 7 t_kinds_size) 8 t_kinds_sort) 16 t_model_number) 19 t_model_order) 18 t_model_size) 20 t_model_sort) 21 t_model_value) (xy_l (xy_l L 6 t_kinds_name) 17 t_model_name) (xy_s (xy_s S 5 0 t_kinds_total) 15 1 t_model_lines)))) (fun K => rfl) ?_
      exact xe_ret
theorem xh_xt_wrong_0_18 {l : Launch} {g : xr_G} (ok : xr_OK xm_P) (A : Nat → Nat → Int32) (L : Nat → Nat → Int64) (S : Nat → Nat → Int32) (t_kinds_mayBeNothing : (Nat → Int32)) (t_kinds_name : (Nat → Int64)) (t_kinds_size : (Nat → Int32)) (t_kinds_sort : (Nat → Int32)) (t_kinds_total : Int32) (t_model_lines : Int32) (t_model_name : (Nat → Int64)) (t_model_number : (Nat → Int32)) (t_model_order : (Nat → Int32)) (t_model_size : (Nat → Int32)) (t_model_sort : (Nat → Int32)) (t_model_value : (Nat → Int32)) (n : Nat) : ∀ (v1 : Int32) (v2 : Int32) (s0 : Int32) (r : ((Int32 ⊕ String))), xf_xt_wrong_18 t_kinds_mayBeNothing t_kinds_name t_kinds_size t_kinds_sort t_kinds_total t_model_lines t_model_name t_model_number t_model_order t_model_size t_model_sort t_model_value n v1 v2 s0 = some r → xV xm_P l g (13, xm_i13, xm_I13, 0, 0, 18, [(0, .ref 2), (1, .int v1), (2, .int v2)], [.int s0], xw_W (xy_a (xy_a (xy_a (xy_a (xy_a (xy_a (xy_a (xy_a A 9 t_kinds_mayBeNothing) 7 t_kinds_size) 8 t_kinds_sort) 16 t_model_number) 19 t_model_order) 18 t_model_size) 20 t_model_sort) 21 t_model_value) (xy_l (xy_l L 6 t_kinds_name) 17 t_model_name) (xy_s (xy_s S 5 0 t_kinds_total) 15 1 t_model_lines)) (xo_i r, xw_W (xy_a (xy_a (xy_a (xy_a (xy_a (xy_a (xy_a (xy_a A 9 t_kinds_mayBeNothing) 7 t_kinds_size) 8 t_kinds_sort) 16 t_model_number) 19 t_model_order) 18 t_model_size) 20 t_model_sort) 21 t_model_value) (xy_l (xy_l L 6 t_kinds_name) 17 t_model_name) (xy_s (xy_s S 5 0 t_kinds_total) 15 1 t_model_lines)) := by
  intro v1 v2 s0 r h
  unfold xf_xt_wrong_18 at h
  refine xe_seg ok 1 (G := (fun K => xr_back K 13 xm_i13 xm_I13 1 6 18 [(0, .ref 2), (1, .int v1), (2, .int v2)] [] 78 true (K (21, xm_i21, xm_I21, 0, 0, 0, [(0, .int s0)], [], xw_W (xy_a (xy_a (xy_a (xy_a (xy_a (xy_a (xy_a (xy_a A 9 t_kinds_mayBeNothing) 7 t_kinds_size) 8 t_kinds_sort) 16 t_model_number) 19 t_model_order) 18 t_model_size) 20 t_model_sort) 21 t_model_value) (xy_l (xy_l L 6 t_kinds_name) 17 t_model_name) (xy_s (xy_s S 5 0 t_kinds_total) 15 1 t_model_lines))))) (fun K => rfl) ?_
  obtain ⟨q1512, hq1512, h⟩ := Option.bind_eq_some_iff.mp h
  have heq1512 := xh_xt_refuseUnless (l := l) (g := g) ok (xy_a (xy_a (xy_a (xy_a (xy_a (xy_a (xy_a (xy_a A 9 t_kinds_mayBeNothing) 7 t_kinds_size) 8 t_kinds_sort) 16 t_model_number) 19 t_model_order) 18 t_model_size) 20 t_model_sort) 21 t_model_value) (xy_l (xy_l L 6 t_kinds_name) 17 t_model_name) (xy_s (xy_s S 5 0 t_kinds_total) 15 1 t_model_lines) s0 _ hq1512
  rcases xb_sum h with ⟨r1513, hr1513, h⟩ | ⟨r1513, hr1513, h⟩
  · rw [hr1513] at heq1512
    refine xe_call0 (ws' := xw_W (xy_a (xy_a (xy_a (xy_a (xy_a (xy_a (xy_a (xy_a A 9 t_kinds_mayBeNothing) 7 t_kinds_size) 8 t_kinds_sort) 16 t_model_number) 19 t_model_order) 18 t_model_size) 20 t_model_sort) 21 t_model_value) (xy_l (xy_l L 6 t_kinds_name) 17 t_model_name) (xy_s (xy_s S 5 0 t_kinds_total) 15 1 t_model_lines)) (by decide) heq1512 (Or.inl rfl) ?_
    refine xe_seg ok 4 (G := (fun K => K (13, xm_i13, xm_I13, 1, 6, 26, [(0, .ref 2), (1, .int v1), (2, .int v2), (3, .int v1), (4, .int ((0 : Int32)))], [], xw_W (xy_a (xy_a (xy_a (xy_a (xy_a (xy_a (xy_a (xy_a A 9 t_kinds_mayBeNothing) 7 t_kinds_size) 8 t_kinds_sort) 16 t_model_number) 19 t_model_order) 18 t_model_size) 20 t_model_sort) 21 t_model_value) (xy_l (xy_l L 6 t_kinds_name) 17 t_model_name) (xy_s (xy_s S 5 0 t_kinds_total) 15 1 t_model_lines)))) (fun K => rfl) ?_
    refine xe_k ?_
    refine xe_sub [true, false, true, true, true] (lv' := [(0, .ref 2), (2, .int v2), (3, .int v1), (4, .int ((0 : Int32)))]) rfl ?_
    exact xh_xt_wrong_0_26 ok A L S t_kinds_mayBeNothing t_kinds_name t_kinds_size t_kinds_sort t_kinds_total t_model_lines t_model_name t_model_number t_model_order t_model_size t_model_sort t_model_value n n v2 v1 ((0 : Int32)) _ h
  · rw [hr1513] at heq1512
    obtain rfl := Option.some.inj h
    exact xe_thr (E := r1513) (ws' := xw_W (xy_a (xy_a (xy_a (xy_a (xy_a (xy_a (xy_a (xy_a A 9 t_kinds_mayBeNothing) 7 t_kinds_size) 8 t_kinds_sort) 16 t_model_number) 19 t_model_order) 18 t_model_size) 20 t_model_sort) 21 t_model_value) (xy_l (xy_l L 6 t_kinds_name) 17 t_model_name) (xy_s (xy_s S 5 0 t_kinds_total) 15 1 t_model_lines)) heq1512 rfl rfl rfl
theorem xh_xt_wrong_0_17 {l : Launch} {g : xr_G} (ok : xr_OK xm_P) (A : Nat → Nat → Int32) (L : Nat → Nat → Int64) (S : Nat → Nat → Int32) (t_kinds_mayBeNothing : (Nat → Int32)) (t_kinds_name : (Nat → Int64)) (t_kinds_size : (Nat → Int32)) (t_kinds_sort : (Nat → Int32)) (t_kinds_total : Int32) (t_model_lines : Int32) (t_model_name : (Nat → Int64)) (t_model_number : (Nat → Int32)) (t_model_order : (Nat → Int32)) (t_model_size : (Nat → Int32)) (t_model_sort : (Nat → Int32)) (t_model_value : (Nat → Int32)) (n : Nat) : ∀ (v1 : Int32) (v2 : Int32) (r : ((Int32 ⊕ String))), xf_xt_wrong_17 t_kinds_mayBeNothing t_kinds_name t_kinds_size t_kinds_sort t_kinds_total t_model_lines t_model_name t_model_number t_model_order t_model_size t_model_sort t_model_value n v1 v2 = some r → xV xm_P l g (13, xm_i13, xm_I13, 0, 0, 17, [(0, .ref 2), (1, .int v1), (2, .int v2)], [], xw_W (xy_a (xy_a (xy_a (xy_a (xy_a (xy_a (xy_a (xy_a A 9 t_kinds_mayBeNothing) 7 t_kinds_size) 8 t_kinds_sort) 16 t_model_number) 19 t_model_order) 18 t_model_size) 20 t_model_sort) 21 t_model_value) (xy_l (xy_l L 6 t_kinds_name) 17 t_model_name) (xy_s (xy_s S 5 0 t_kinds_total) 15 1 t_model_lines)) (xo_i r, xw_W (xy_a (xy_a (xy_a (xy_a (xy_a (xy_a (xy_a (xy_a A 9 t_kinds_mayBeNothing) 7 t_kinds_size) 8 t_kinds_sort) 16 t_model_number) 19 t_model_order) 18 t_model_size) 20 t_model_sort) 21 t_model_value) (xy_l (xy_l L 6 t_kinds_name) 17 t_model_name) (xy_s (xy_s S 5 0 t_kinds_total) 15 1 t_model_lines)) := by
  intro v1 v2 r h
  unfold xf_xt_wrong_17 at h
  refine xe_seg ok 1 (G := (fun K => K (13, xm_i13, xm_I13, 0, 0, 18, [(0, .ref 2), (1, .int v1), (2, .int v2)], [.int ((0 : Int32))], xw_W (xy_a (xy_a (xy_a (xy_a (xy_a (xy_a (xy_a (xy_a A 9 t_kinds_mayBeNothing) 7 t_kinds_size) 8 t_kinds_sort) 16 t_model_number) 19 t_model_order) 18 t_model_size) 20 t_model_sort) 21 t_model_value) (xy_l (xy_l L 6 t_kinds_name) 17 t_model_name) (xy_s (xy_s S 5 0 t_kinds_total) 15 1 t_model_lines)))) (fun K => rfl) ?_
  refine xe_k ?_
  refine xe_sub [true, true, true] (lv' := [(0, .ref 2), (1, .int v1), (2, .int v2)]) rfl ?_
  exact xh_xt_wrong_0_18 ok A L S t_kinds_mayBeNothing t_kinds_name t_kinds_size t_kinds_sort t_kinds_total t_model_lines t_model_name t_model_number t_model_order t_model_size t_model_sort t_model_value n v1 v2 ((0 : Int32)) _ h
theorem xh_xt_wrong_0 {l : Launch} {g : xr_G} (ok : xr_OK xm_P) (A : Nat → Nat → Int32) (L : Nat → Nat → Int64) (S : Nat → Nat → Int32) (t_kinds_mayBeNothing : (Nat → Int32)) (t_kinds_name : (Nat → Int64)) (t_kinds_size : (Nat → Int32)) (t_kinds_sort : (Nat → Int32)) (t_kinds_total : Int32) (t_model_lines : Int32) (t_model_name : (Nat → Int64)) (t_model_number : (Nat → Int32)) (t_model_order : (Nat → Int32)) (t_model_size : (Nat → Int32)) (t_model_sort : (Nat → Int32)) (t_model_value : (Nat → Int32)) (n : Nat) : ∀ (a1 : Int32) (a2 : Int32) (r : ((Int32 ⊕ String))), xf_xt_wrong t_kinds_mayBeNothing t_kinds_name t_kinds_size t_kinds_sort t_kinds_total t_model_lines t_model_name t_model_number t_model_order t_model_size t_model_sort t_model_value n a1 a2 = some r → xV xm_P l g (13, xm_i13, xm_I13, 0, 0, 0, [(0, .ref 2), (1, .int a1), (2, .int a2)], [], xw_W (xy_a (xy_a (xy_a (xy_a (xy_a (xy_a (xy_a (xy_a A 9 t_kinds_mayBeNothing) 7 t_kinds_size) 8 t_kinds_sort) 16 t_model_number) 19 t_model_order) 18 t_model_size) 20 t_model_sort) 21 t_model_value) (xy_l (xy_l L 6 t_kinds_name) 17 t_model_name) (xy_s (xy_s S 5 0 t_kinds_total) 15 1 t_model_lines)) (xo_i r, xw_W (xy_a (xy_a (xy_a (xy_a (xy_a (xy_a (xy_a (xy_a A 9 t_kinds_mayBeNothing) 7 t_kinds_size) 8 t_kinds_sort) 16 t_model_number) 19 t_model_order) 18 t_model_size) 20 t_model_sort) 21 t_model_value) (xy_l (xy_l L 6 t_kinds_name) 17 t_model_name) (xy_s (xy_s S 5 0 t_kinds_total) 15 1 t_model_lines)) := by
  intro a1 a2 r h
  unfold xf_xt_wrong at h
  refine xe_seg ok 2 (G := (fun K => if a1 < (0 : Int32) then K (13, xm_i13, xm_I13, 0, 0, 17, [(0, .ref 2), (1, .int a1), (2, .int a2)], [], xw_W (xy_a (xy_a (xy_a (xy_a (xy_a (xy_a (xy_a (xy_a A 9 t_kinds_mayBeNothing) 7 t_kinds_size) 8 t_kinds_sort) 16 t_model_number) 19 t_model_order) 18 t_model_size) 20 t_model_sort) 21 t_model_value) (xy_l (xy_l L 6 t_kinds_name) 17 t_model_name) (xy_s (xy_s S 5 0 t_kinds_total) 15 1 t_model_lines)) else K (13, xm_i13, xm_I13, 0, 0, 4, [(0, .ref 2), (1, .int a1), (2, .int a2)], [], xw_W (xy_a (xy_a (xy_a (xy_a (xy_a (xy_a (xy_a (xy_a A 9 t_kinds_mayBeNothing) 7 t_kinds_size) 8 t_kinds_sort) 16 t_model_number) 19 t_model_order) 18 t_model_size) 20 t_model_sort) 21 t_model_value) (xy_l (xy_l L 6 t_kinds_name) 17 t_model_name) (xy_s (xy_s S 5 0 t_kinds_total) 15 1 t_model_lines)))) (fun K => rfl) ?_
  rcases xb_if h with ⟨hc1511, h⟩ | ⟨hc1511, h⟩
  · refine xe_pos hc1511 (xe_k ?_)
    refine xe_sub [true, true, true] (lv' := [(0, .ref 2), (1, .int a1), (2, .int a2)]) rfl ?_
    exact xh_xt_wrong_0_17 ok A L S t_kinds_mayBeNothing t_kinds_name t_kinds_size t_kinds_sort t_kinds_total t_model_lines t_model_name t_model_number t_model_order t_model_size t_model_sort t_model_value n a1 a2 _ h
  · refine xe_neg hc1511 (xe_k ?_)
    refine xe_seg ok 2 (G := (fun K => if a2 < (0 : Int32) then K (13, xm_i13, xm_I13, 0, 0, 17, [(0, .ref 2), (1, .int a1), (2, .int a2)], [], xw_W (xy_a (xy_a (xy_a (xy_a (xy_a (xy_a (xy_a (xy_a A 9 t_kinds_mayBeNothing) 7 t_kinds_size) 8 t_kinds_sort) 16 t_model_number) 19 t_model_order) 18 t_model_size) 20 t_model_sort) 21 t_model_value) (xy_l (xy_l L 6 t_kinds_name) 17 t_model_name) (xy_s (xy_s S 5 0 t_kinds_total) 15 1 t_model_lines)) else K (13, xm_i13, xm_I13, 0, 0, 8, [(0, .ref 2), (1, .int a1), (2, .int a2)], [], xw_W (xy_a (xy_a (xy_a (xy_a (xy_a (xy_a (xy_a (xy_a A 9 t_kinds_mayBeNothing) 7 t_kinds_size) 8 t_kinds_sort) 16 t_model_number) 19 t_model_order) 18 t_model_size) 20 t_model_sort) 21 t_model_value) (xy_l (xy_l L 6 t_kinds_name) 17 t_model_name) (xy_s (xy_s S 5 0 t_kinds_total) 15 1 t_model_lines)))) (fun K => rfl) ?_
    rcases xb_if h with ⟨hc1552, h⟩ | ⟨hc1552, h⟩
    · refine xe_pos hc1552 (xe_k ?_)
      refine xe_sub [true, true, true] (lv' := [(0, .ref 2), (1, .int a1), (2, .int a2)]) rfl ?_
      exact xh_xt_wrong_0_17 ok A L S t_kinds_mayBeNothing t_kinds_name t_kinds_size t_kinds_sort t_kinds_total t_model_lines t_model_name t_model_number t_model_order t_model_size t_model_sort t_model_value n a1 a2 _ h
    · refine xe_neg hc1552 (xe_k ?_)
      refine xe_seg ok 3 (G := (fun K => if ((2 : Int32)) < a2 then K (13, xm_i13, xm_I13, 0, 0, 17, [(0, .ref 2), (1, .int a1), (2, .int a2)], [], xw_W (xy_a (xy_a (xy_a (xy_a (xy_a (xy_a (xy_a (xy_a A 9 t_kinds_mayBeNothing) 7 t_kinds_size) 8 t_kinds_sort) 16 t_model_number) 19 t_model_order) 18 t_model_size) 20 t_model_sort) 21 t_model_value) (xy_l (xy_l L 6 t_kinds_name) 17 t_model_name) (xy_s (xy_s S 5 0 t_kinds_total) 15 1 t_model_lines)) else K (13, xm_i13, xm_I13, 0, 0, 13, [(0, .ref 2), (1, .int a1), (2, .int a2)], [], xw_W (xy_a (xy_a (xy_a (xy_a (xy_a (xy_a (xy_a (xy_a A 9 t_kinds_mayBeNothing) 7 t_kinds_size) 8 t_kinds_sort) 16 t_model_number) 19 t_model_order) 18 t_model_size) 20 t_model_sort) 21 t_model_value) (xy_l (xy_l L 6 t_kinds_name) 17 t_model_name) (xy_s (xy_s S 5 0 t_kinds_total) 15 1 t_model_lines)))) (fun K => rfl) ?_
      rcases xb_if h with ⟨hc1553, h⟩ | ⟨hc1553, h⟩
      · refine xe_pos hc1553 (xe_k ?_)
        refine xe_sub [true, true, true] (lv' := [(0, .ref 2), (1, .int a1), (2, .int a2)]) rfl ?_
        exact xh_xt_wrong_0_17 ok A L S t_kinds_mayBeNothing t_kinds_name t_kinds_size t_kinds_sort t_kinds_total t_model_lines t_model_name t_model_number t_model_order t_model_size t_model_sort t_model_value n a1 a2 _ h
      · refine xe_neg hc1553 (xe_k ?_)
        refine xe_seg ok 2 (G := (fun K => K (13, xm_i13, xm_I13, 0, 0, 18, [(0, .ref 2), (1, .int a1), (2, .int a2)], [.int ((1 : Int32))], xw_W (xy_a (xy_a (xy_a (xy_a (xy_a (xy_a (xy_a (xy_a A 9 t_kinds_mayBeNothing) 7 t_kinds_size) 8 t_kinds_sort) 16 t_model_number) 19 t_model_order) 18 t_model_size) 20 t_model_sort) 21 t_model_value) (xy_l (xy_l L 6 t_kinds_name) 17 t_model_name) (xy_s (xy_s S 5 0 t_kinds_total) 15 1 t_model_lines)))) (fun K => rfl) ?_
        refine xe_k ?_
        refine xe_sub [true, true, true] (lv' := [(0, .ref 2), (1, .int a1), (2, .int a2)]) rfl ?_
        exact xh_xt_wrong_0_18 ok A L S t_kinds_mayBeNothing t_kinds_name t_kinds_size t_kinds_sort t_kinds_total t_model_lines t_model_name t_model_number t_model_order t_model_size t_model_sort t_model_value n a1 a2 ((1 : Int32)) _ h
theorem xh_la_wrong_0_77 {l : Launch} {g : xr_G} (ok : xr_OK xm_P) (A : Nat → Nat → Int32) (L : Nat → Nat → Int64) (S : Nat → Nat → Int32) (p1_kinds_mayBeNothing : (Nat → Int32)) (p1_kinds_name : (Nat → Int64)) (p1_kinds_size : (Nat → Int32)) (p1_kinds_sort : (Nat → Int32)) (p1_kinds_total : Int32) (p1_model_lines : Int32) (p1_model_name : (Nat → Int64)) (p1_model_number : (Nat → Int32)) (p1_model_order : (Nat → Int32)) (p1_model_size : (Nat → Int32)) (p1_model_sort : (Nat → Int32)) (p1_model_value : (Nat → Int32)) (n_p4 : Nat) (n : Nat) : ∀ (p4 : (Nat → Int64)) (a2 : Int32) (a3 : Int32) (r : (Int32 × (Nat → Int64))), xf_la_wrong p1_kinds_mayBeNothing p1_kinds_name p1_kinds_size p1_kinds_sort p1_kinds_total p1_model_lines p1_model_name p1_model_number p1_model_order p1_model_size p1_model_sort p1_model_value n_p4 n p4 a2 a3 = some r → xV xm_P l g (179, xm_i179, xm_I179, 0, 0, 0, [(0, .ref 2), (1, .int a2), (2, .int a3), (3, .ref 79)], [], xw_W (xy_a (xy_a (xy_a (xy_a (xy_a (xy_a (xy_a (xy_a A 9 p1_kinds_mayBeNothing) 7 p1_kinds_size) 8 p1_kinds_sort) 16 p1_model_number) 19 p1_model_order) 18 p1_model_size) 20 p1_model_sort) 21 p1_model_value) (xy_l (xy_l (xy_l L 6 p1_kinds_name) 17 p1_model_name) 77 p4) (xy_s (xy_s S 5 0 p1_kinds_total) 15 1 p1_model_lines)) (.inl (some (.int r.1)), xw_W (xy_a (xy_a (xy_a (xy_a (xy_a (xy_a (xy_a (xy_a A 9 p1_kinds_mayBeNothing) 7 p1_kinds_size) 8 p1_kinds_sort) 16 p1_model_number) 19 p1_model_order) 18 p1_model_size) 20 p1_model_sort) 21 p1_model_value) (xy_l (xy_l (xy_l L 6 p1_kinds_name) 17 p1_model_name) 77 r.2) (xy_s (xy_s S 5 0 p1_kinds_total) 15 1 p1_model_lines)) := by
  intro p4 a2 a3 r h
  unfold xf_la_wrong at h
  refine xe_seg ok 6 (G := (fun K => xr_back K 179 xm_i179 xm_I179 1 6 5 [(0, .ref 2), (1, .int a2), (2, .int a3), (3, .ref 79)] [.int ((0 : Int32)), .ref 79] 78 true (K (13, xm_i13, xm_I13, 0, 0, 0, [(0, .ref 2), (1, .int a2), (2, .int a3)], [], xw_W (xy_a (xy_a (xy_a (xy_a (xy_a (xy_a (xy_a (xy_a A 9 p1_kinds_mayBeNothing) 7 p1_kinds_size) 8 p1_kinds_sort) 16 p1_model_number) 19 p1_model_order) 18 p1_model_size) 20 p1_model_sort) 21 p1_model_value) (xy_l (xy_l (xy_l L 6 p1_kinds_name) 17 p1_model_name) 77 p4) (xy_s (xy_s S 5 0 p1_kinds_total) 15 1 p1_model_lines))))) (fun K => rfl) ?_
  obtain ⟨q1554, hq1554, h⟩ := Option.bind_eq_some_iff.mp h
  have heq1554 := xh_xt_wrong_0 (l := l) (g := g) ok (xy_a (xy_a (xy_a (xy_a (xy_a (xy_a (xy_a (xy_a A 9 p1_kinds_mayBeNothing) 7 p1_kinds_size) 8 p1_kinds_sort) 16 p1_model_number) 19 p1_model_order) 18 p1_model_size) 20 p1_model_sort) 21 p1_model_value) (xy_l (xy_l (xy_l L 6 p1_kinds_name) 17 p1_model_name) 77 p4) (xy_s (xy_s S 5 0 p1_kinds_total) 15 1 p1_model_lines) p1_kinds_mayBeNothing p1_kinds_name p1_kinds_size p1_kinds_sort p1_kinds_total p1_model_lines p1_model_name p1_model_number p1_model_order p1_model_size p1_model_sort p1_model_value n a2 a3 _ hq1554
  rcases xb_sum h with ⟨r1555, hr1555, h⟩ | ⟨r1555, hr1555, h⟩
  · rw [hr1555] at heq1554
    refine xe_call1 (ws' := xw_W (xy_a (xy_a (xy_a (xy_a (xy_a (xy_a (xy_a (xy_a A 9 p1_kinds_mayBeNothing) 7 p1_kinds_size) 8 p1_kinds_sort) 16 p1_model_number) 19 p1_model_order) 18 p1_model_size) 20 p1_model_sort) 21 p1_model_value) (xy_l (xy_l (xy_l L 6 p1_kinds_name) 17 p1_model_name) 77 p4) (xy_s (xy_s S 5 0 p1_kinds_total) 15 1 p1_model_lines)) (by decide) heq1554 (Or.inl rfl) ?_
    refine xe_seg ok 2 (G := (fun K => if xr_in ((0 : Int32)) 1 = true then K (179, xm_i179, xm_I179, 1, 6, 10, [(0, .ref 2), (1, .int a2), (2, .int a3), (3, .ref 79)], [], xw_W (xy_a (xy_a (xy_a (xy_a (xy_a (xy_a (xy_a (xy_a A 9 p1_kinds_mayBeNothing) 7 p1_kinds_size) 8 p1_kinds_sort) 16 p1_model_number) 19 p1_model_order) 18 p1_model_size) 20 p1_model_sort) 21 p1_model_value) (xy_l (xy_l (xy_l L 6 p1_kinds_name) 17 p1_model_name) 77 (vp_updL p4 ((0 : Int32)).toNatClampNeg r1555.toInt64)) (xy_s (xy_s S 5 0 p1_kinds_total) 15 1 p1_model_lines)) else none)) (fun K => rfl) ?_
    obtain ⟨hg1556, h⟩ := xn_if h
    refine xe_pos hg1556 (xe_k ?_)
    obtain rfl := Option.some.inj h
    refine xe_seg ok 3 (G := (fun _ => some (.inl (some (.int ((0 : Int32)))), xw_W (xy_a (xy_a (xy_a (xy_a (xy_a (xy_a (xy_a (xy_a A 9 p1_kinds_mayBeNothing) 7 p1_kinds_size) 8 p1_kinds_sort) 16 p1_model_number) 19 p1_model_order) 18 p1_model_size) 20 p1_model_sort) 21 p1_model_value) (xy_l (xy_l (xy_l L 6 p1_kinds_name) 17 p1_model_name) 77 (vp_updL p4 ((0 : Int32)).toNatClampNeg r1555.toInt64)) (xy_s (xy_s S 5 0 p1_kinds_total) 15 1 p1_model_lines)))) (fun K => rfl) ?_
    exact xe_ret
  · rw [hr1555] at heq1554
    rcases xb_if h with ⟨hc1557, h⟩ | ⟨hc1557, h⟩
    · subst hc1557
      refine xe_catch (ws' := xw_W (xy_a (xy_a (xy_a (xy_a (xy_a (xy_a (xy_a (xy_a A 9 p1_kinds_mayBeNothing) 7 p1_kinds_size) 8 p1_kinds_sort) 16 p1_model_number) 19 p1_model_order) 18 p1_model_size) 20 p1_model_sort) 21 p1_model_value) (xy_l (xy_l (xy_l L 6 p1_kinds_name) 17 p1_model_name) 77 p4) (xy_s (xy_s S 5 0 p1_kinds_total) 15 1 p1_model_lines)) (by decide) heq1554 (q' := (179, xm_i179, xm_I179, 1, 6, 15, [(0, .ref 2), (1, .int a2), (2, .int a3), (3, .ref 79)], [], xw_W (xy_a (xy_a (xy_a (xy_a (xy_a (xy_a (xy_a (xy_a A 9 p1_kinds_mayBeNothing) 7 p1_kinds_size) 8 p1_kinds_sort) 16 p1_model_number) 19 p1_model_order) 18 p1_model_size) 20 p1_model_sort) 21 p1_model_value) (xy_l (xy_l (xy_l L 6 p1_kinds_name) 17 p1_model_name) 77 p4) (xy_s (xy_s S 5 0 p1_kinds_total) 15 1 p1_model_lines))) (fun K => rfl) ?_
      obtain rfl := Option.some.inj h
      refine xe_seg ok 2 (G := (fun _ => some (.inl (some (.int ((1 : Int32)))), xw_W (xy_a (xy_a (xy_a (xy_a (xy_a (xy_a (xy_a (xy_a A 9 p1_kinds_mayBeNothing) 7 p1_kinds_size) 8 p1_kinds_sort) 16 p1_model_number) 19 p1_model_order) 18 p1_model_size) 20 p1_model_sort) 21 p1_model_value) (xy_l (xy_l (xy_l L 6 p1_kinds_name) 17 p1_model_name) 77 p4) (xy_s (xy_s S 5 0 p1_kinds_total) 15 1 p1_model_lines)))) (fun K => rfl) ?_
      exact xe_ret
    · cases h
theorem xh_gr_refersTo_42_20 {l : Launch} {g : xr_G} (ok : xr_OK xm_P) (A : Nat → Nat → Int32) (L : Nat → Nat → Int64) (S : Nat → Nat → Int32) (t_direct : (Nat → Int64)) : ∀ (s0 : Int32) (r : (Int32)), xf_gr_refersTo_20 t_direct s0 = some r → xV xm_P l g (93, xm_i93, xm_I93, 0, 0, 20, [], [.int s0], xw_W A (xy_l L 43 t_direct) S) (.inl (some (.int r)), xw_W A (xy_l L 43 t_direct) S) := by
  intro s0 r h
  unfold xf_gr_refersTo_20 at h
  refine xe_seg ok 1 (G := (fun _ => if fits .boolean (.int s0) = true then some (.inl (some (.int s0)), xw_W A (xy_l L 43 t_direct) S) else none)) (fun K => rfl) ?_
  obtain ⟨hg1567, h⟩ := xn_if h
  obtain rfl := Option.some.inj h
  exact xe_pos (A := fun _ => some (.inl (some (.int s0)), xw_W A (xy_l L 43 t_direct) S)) (B := fun _ => none) hg1567 xe_ret
theorem xh_gr_refersTo_42 {l : Launch} {g : xr_G} (ok : xr_OK xm_P) (A : Nat → Nat → Int32) (L : Nat → Nat → Int64) (S : Nat → Nat → Int32) (t_direct : (Nat → Int64)) : ∀ (a1 : Int32) (a2 : Int32) (r : (Int32)), xf_gr_refersTo t_direct a1 a2 = some r → xV xm_P l g (93, xm_i93, xm_I93, 0, 0, 0, [(0, .ref 44), (1, .int a1), (2, .int a2)], [], xw_W A (xy_l L 43 t_direct) S) (.inl (some (.int r)), xw_W A (xy_l L 43 t_direct) S) := by
  intro a1 a2 r h
  unfold xf_gr_refersTo at h
  refine xe_seg ok 4 (G := (fun K => if xr_in a1 40 = true then K (93, xm_i93, xm_I93, 0, 0, 6, [(0, .ref 44), (1, .int a1), (2, .int a2)], [.long (t_direct a1.toNatClampNeg)], xw_W A (xy_l L 43 t_direct) S) else none)) (fun K => rfl) ?_
  obtain ⟨hg1565, h⟩ := xn_if h
  refine xe_pos hg1565 (xe_k ?_)
  refine xe_seg ok 7 (G := (fun K => if (lg_cmp ((xe_ushr (t_direct a1.toNatClampNeg) a2) &&& ((1 : Int64))) ((0 : Int64))) = (0 : Int32) then K (93, xm_i93, xm_I93, 0, 0, 19, [(0, .ref 44), (1, .int a1), (2, .int a2)], [], xw_W A (xy_l L 43 t_direct) S) else K (93, xm_i93, xm_I93, 0, 0, 15, [(0, .ref 44), (1, .int a1), (2, .int a2)], [], xw_W A (xy_l L 43 t_direct) S))) (fun K => rfl) ?_
  rcases xb_if h with ⟨hc1566, h⟩ | ⟨hc1566, h⟩
  · refine xe_pos hc1566 (xe_k ?_)
    refine xe_seg ok 1 (G := (fun K => K (93, xm_i93, xm_I93, 0, 0, 20, [(0, .ref 44), (1, .int a1), (2, .int a2)], [.int ((0 : Int32))], xw_W A (xy_l L 43 t_direct) S))) (fun K => rfl) ?_
    refine xe_k ?_
    refine xe_sub [false, false, false] (lv' := []) rfl ?_
    exact xh_gr_refersTo_42_20 ok A L S t_direct ((0 : Int32)) _ h
  · refine xe_neg hc1566 (xe_k ?_)
    refine xe_seg ok 2 (G := (fun K => K (93, xm_i93, xm_I93, 0, 0, 20, [(0, .ref 44), (1, .int a1), (2, .int a2)], [.int ((1 : Int32))], xw_W A (xy_l L 43 t_direct) S))) (fun K => rfl) ?_
    refine xe_k ?_
    refine xe_sub [false, false, false] (lv' := []) rfl ?_
    exact xh_gr_refersTo_42_20 ok A L S t_direct ((1 : Int32)) _ h
theorem xh_xt_from_0_79 {l : Launch} {g : xr_G} (ok : xr_OK xm_P) (A : Nat → Nat → Int32) (L : Nat → Nat → Int64) (S : Nat → Nat → Int32) (t_graph_direct : (Nat → Int64)) (t_model_lines : Int32) (t_model_number : (Nat → Int32)) (t_model_order : (Nat → Int32)) {k24 : Int32 → Int32 → Int32 → Option ((Int32 ⊕ String))} (hk24 : ∀ (v3 : Int32) (v4 : Int32) (v5 : Int32) (r : ((Int32 ⊕ String))), k24 v3 v4 v5 = some r → xV xm_P l g (14, xm_i14, xm_I14, 2, 12, 24, [(0, .ref 2), (3, .int v3), (4, .int v4), (5, .int v5)], [], xw_W (xy_a (xy_a A 16 t_model_number) 19 t_model_order) (xy_l L 43 t_graph_direct) (xy_s S 15 1 t_model_lines)) (xo_i r, xw_W (xy_a (xy_a A 16 t_model_number) 19 t_model_order) (xy_l L 43 t_graph_direct) (xy_s S 15 1 t_model_lines))) (n : Nat) : ∀ (v3 : Int32) (v4 : Int32) (v5 : Int32) (r : ((Int32 ⊕ String))), xf_xt_from_79 t_graph_direct t_model_lines t_model_number t_model_order k24 n v3 v4 v5 = some r → xV xm_P l g (14, xm_i14, xm_I14, 2, 12, 79, [(0, .ref 2), (3, .int v3), (4, .int v4), (5, .int v5)], [], xw_W (xy_a (xy_a A 16 t_model_number) 19 t_model_order) (xy_l L 43 t_graph_direct) (xy_s S 15 1 t_model_lines)) (xo_i r, xw_W (xy_a (xy_a A 16 t_model_number) 19 t_model_order) (xy_l L 43 t_graph_direct) (xy_s S 15 1 t_model_lines)) := by
  intro v3 v4 v5 r h
  unfold xf_xt_from_79 at h
  refine xe_seg ok 2 (G := (fun K => K (14, xm_i14, xm_I14, 2, 12, 24, [(0, .ref 2), (3, .int v3), (4, .int v4), (5, .int (v5 + (1 : Int32)))], [], xw_W (xy_a (xy_a A 16 t_model_number) 19 t_model_order) (xy_l L 43 t_graph_direct) (xy_s S 15 1 t_model_lines)))) (fun K => rfl) ?_
  refine xe_k ?_
  refine xe_sub [true, true, true, true] (lv' := [(0, .ref 2), (3, .int v3), (4, .int v4), (5, .int (v5 + (1 : Int32)))]) rfl ?_
  exact hk24 v3 v4 (v5 + (1 : Int32)) _ h
theorem xh_xt_from_0_24 {l : Launch} {g : xr_G} (ok : xr_OK xm_P) (A : Nat → Nat → Int32) (L : Nat → Nat → Int64) (S : Nat → Nat → Int32) (t_graph_direct : (Nat → Int64)) (t_model_lines : Int32) (t_model_number : (Nat → Int32)) (t_model_order : (Nat → Int32)) (n : Nat) : ∀ (N : Nat) (v3 : Int32) (v4 : Int32) (v5 : Int32) (r : ((Int32 ⊕ String))), xf_xt_from_24 t_graph_direct t_model_lines t_model_number t_model_order n N v3 v4 v5 = some r → xV xm_P l g (14, xm_i14, xm_I14, 2, 12, 24, [(0, .ref 2), (3, .int v3), (4, .int v4), (5, .int v5)], [], xw_W (xy_a (xy_a A 16 t_model_number) 19 t_model_order) (xy_l L 43 t_graph_direct) (xy_s S 15 1 t_model_lines)) (xo_i r, xw_W (xy_a (xy_a A 16 t_model_number) 19 t_model_order) (xy_l L 43 t_graph_direct) (xy_s S 15 1 t_model_lines)) := by
  intro N
  induction N with
  | zero => intro v3 v4 v5 r h; cases h
  | succ N hk24 =>
    intro v3 v4 v5 r h
    refine xe_seg ok 5 (G := (fun K => if v5 < t_model_lines then K (14, xm_i14, xm_I14, 2, 12, 36, [(0, .ref 2), (3, .int v3), (4, .int v4), (5, .int v5)], [], xw_W (xy_a (xy_a A 16 t_model_number) 19 t_model_order) (xy_l L 43 t_graph_direct) (xy_s S 15 1 t_model_lines)) else K (14, xm_i14, xm_I14, 2, 12, 85, [(0, .ref 2), (3, .int v3), (4, .int v4), (5, .int v5)], [], xw_W (xy_a (xy_a A 16 t_model_number) 19 t_model_order) (xy_l L 43 t_graph_direct) (xy_s S 15 1 t_model_lines)))) (fun K => rfl) ?_
    rcases xb_if h with ⟨hc1563, h⟩ | ⟨hc1563, h⟩
    · refine xe_pos hc1563 (xe_k ?_)
      refine xe_seg ok 4 (G := (fun K => xr_back K 14 xm_i14 xm_I14 2 12 42 [(0, .ref 2), (3, .int v3), (4, .int v4), (5, .int v5)] [] 78 true (K (113, xm_i113, xm_I113, 0, 0, 0, [(0, .ref 17), (1, .int v5)], [], xw_W (xy_a (xy_a A 16 t_model_number) 19 t_model_order) (xy_l L 43 t_graph_direct) (xy_s S 15 1 t_model_lines))))) (fun K => rfl) ?_
      obtain ⟨q1564, hq1564, h⟩ := Option.bind_eq_some_iff.mp h
      have heq1564 := xh_md_rowAt_15 (l := l) (g := g) ok (xy_a (xy_a A 16 t_model_number) 19 t_model_order) (xy_l L 43 t_graph_direct) (xy_s S 15 1 t_model_lines) t_model_lines t_model_order v5 _ hq1564
      refine xe_call1 (ws' := xw_W (xy_a (xy_a A 16 t_model_number) 19 t_model_order) (xy_l L 43 t_graph_direct) (xy_s S 15 1 t_model_lines)) (by decide) heq1564 (Or.inl rfl) ?_
      refine xe_seg ok 6 (G := (fun K => xr_back K 14 xm_i14 xm_I14 2 12 54 [(0, .ref 2), (3, .int v3), (4, .int v4), (5, .int v5), (6, .int q1564)] [] 78 true (K (93, xm_i93, xm_I93, 0, 0, 0, [(0, .ref 44), (1, .int q1564), (2, .int v3)], [], xw_W (xy_a (xy_a A 16 t_model_number) 19 t_model_order) (xy_l L 43 t_graph_direct) (xy_s S 15 1 t_model_lines))))) (fun K => rfl) ?_
      obtain ⟨q1568, hq1568, h⟩ := Option.bind_eq_some_iff.mp h
      have heq1568 := xh_gr_refersTo_42 (l := l) (g := g) ok (xy_a (xy_a A 16 t_model_number) 19 t_model_order) (xy_l L 43 t_graph_direct) (xy_s S 15 1 t_model_lines) t_graph_direct q1564 v3 _ hq1568
      refine xe_call1 (ws' := xw_W (xy_a (xy_a A 16 t_model_number) 19 t_model_order) (xy_l L 43 t_graph_direct) (xy_s S 15 1 t_model_lines)) (by decide) heq1568 (Or.inl rfl) ?_
      refine xe_seg ok 1 (G := (fun K => if q1568 = (0 : Int32) then K (14, xm_i14, xm_I14, 2, 12, 79, [(0, .ref 2), (3, .int v3), (4, .int v4), (5, .int v5), (6, .int q1564)], [], xw_W (xy_a (xy_a A 16 t_model_number) 19 t_model_order) (xy_l L 43 t_graph_direct) (xy_s S 15 1 t_model_lines)) else K (14, xm_i14, xm_I14, 2, 12, 60, [(0, .ref 2), (3, .int v3), (4, .int v4), (5, .int v5), (6, .int q1564)], [], xw_W (xy_a (xy_a A 16 t_model_number) 19 t_model_order) (xy_l L 43 t_graph_direct) (xy_s S 15 1 t_model_lines)))) (fun K => rfl) ?_
      rcases xb_if h with ⟨hc1569, h⟩ | ⟨hc1569, h⟩
      · refine xe_pos hc1569 (xe_k ?_)
        refine xe_sub [true, true, true, true, false] (lv' := [(0, .ref 2), (3, .int v3), (4, .int v4), (5, .int v5)]) rfl ?_
        exact xh_xt_from_0_79 ok A L S t_graph_direct t_model_lines t_model_number t_model_order hk24 n v3 v4 v5 _ h
      · refine xe_neg hc1569 (xe_k ?_)
        refine xe_seg ok 2 (G := (fun K => if v4 = (0 : Int32) then K (14, xm_i14, xm_I14, 2, 12, 65, [(0, .ref 2), (3, .int v3), (4, .int v4), (5, .int v5), (6, .int q1564)], [], xw_W (xy_a (xy_a A 16 t_model_number) 19 t_model_order) (xy_l L 43 t_graph_direct) (xy_s S 15 1 t_model_lines)) else K (14, xm_i14, xm_I14, 2, 12, 76, [(0, .ref 2), (3, .int v3), (4, .int v4), (5, .int v5), (6, .int q1564)], [], xw_W (xy_a (xy_a A 16 t_model_number) 19 t_model_order) (xy_l L 43 t_graph_direct) (xy_s S 15 1 t_model_lines)))) (fun K => rfl) ?_
        rcases xb_if h with ⟨hc1570, h⟩ | ⟨hc1570, h⟩
        · refine xe_pos hc1570 (xe_k ?_)
          refine xe_seg ok 5 (G := (fun K => if xr_in q1564 40 = true then K (14, xm_i14, xm_I14, 2, 12, 75, [(0, .ref 2), (3, .int v3), (4, .int v4), (5, .int v5), (6, .int q1564)], [.int (t_model_number q1564.toNatClampNeg)], xw_W (xy_a (xy_a A 16 t_model_number) 19 t_model_order) (xy_l L 43 t_graph_direct) (xy_s S 15 1 t_model_lines)) else none)) (fun K => rfl) ?_
          obtain ⟨hg1571, h⟩ := xn_if h
          refine xe_pos hg1571 (xe_k ?_)
          obtain rfl := Option.some.inj h
          refine xe_seg ok 1 (G := (fun _ => some (.inl (some (.int (t_model_number q1564.toNatClampNeg))), xw_W (xy_a (xy_a A 16 t_model_number) 19 t_model_order) (xy_l L 43 t_graph_direct) (xy_s S 15 1 t_model_lines)))) (fun K => rfl) ?_
          exact xe_ret
        · refine xe_neg hc1570 (xe_k ?_)
          refine xe_seg ok 1 (G := (fun K => K (14, xm_i14, xm_I14, 2, 12, 79, [(0, .ref 2), (3, .int v3), (4, .int (v4 + (-1 : Int32))), (5, .int v5), (6, .int q1564)], [], xw_W (xy_a (xy_a A 16 t_model_number) 19 t_model_order) (xy_l L 43 t_graph_direct) (xy_s S 15 1 t_model_lines)))) (fun K => rfl) ?_
          refine xe_k ?_
          refine xe_sub [true, true, true, true, false] (lv' := [(0, .ref 2), (3, .int v3), (4, .int (v4 + (-1 : Int32))), (5, .int v5)]) rfl ?_
          exact xh_xt_from_0_79 ok A L S t_graph_direct t_model_lines t_model_number t_model_order hk24 n v3 (v4 + (-1 : Int32)) v5 _ h
    · refine xe_neg hc1563 (xe_k ?_)
      obtain rfl := Option.some.inj h
      refine xe_seg ok 2 (G := (fun _ => some (.inl (some (.int ((-1 : Int32)))), xw_W (xy_a (xy_a A 16 t_model_number) 19 t_model_order) (xy_l L 43 t_graph_direct) (xy_s S 15 1 t_model_lines)))) (fun K => rfl) ?_
      exact xe_ret
theorem xh_xt_from_0_15 {l : Launch} {g : xr_G} (ok : xr_OK xm_P) (A : Nat → Nat → Int32) (L : Nat → Nat → Int64) (S : Nat → Nat → Int32) (t_graph_direct : (Nat → Int64)) (t_model_lines : Int32) (t_model_number : (Nat → Int32)) (t_model_order : (Nat → Int32)) (n : Nat) : ∀ (v2 : Int32) (v3 : Int32) (s0 : Int32) (r : ((Int32 ⊕ String))), xf_xt_from_15 t_graph_direct t_model_lines t_model_number t_model_order n v2 v3 s0 = some r → xV xm_P l g (14, xm_i14, xm_I14, 1, 6, 15, [(0, .ref 2), (2, .int v2), (3, .int v3)], [.int s0], xw_W (xy_a (xy_a A 16 t_model_number) 19 t_model_order) (xy_l L 43 t_graph_direct) (xy_s S 15 1 t_model_lines)) (xo_i r, xw_W (xy_a (xy_a A 16 t_model_number) 19 t_model_order) (xy_l L 43 t_graph_direct) (xy_s S 15 1 t_model_lines)) := by
  intro v2 v3 s0 r h
  unfold xf_xt_from_15 at h
  refine xe_seg ok 1 (G := (fun K => xr_back K 14 xm_i14 xm_I14 2 12 15 [(0, .ref 2), (2, .int v2), (3, .int v3)] [] 78 true (K (21, xm_i21, xm_I21, 0, 0, 0, [(0, .int s0)], [], xw_W (xy_a (xy_a A 16 t_model_number) 19 t_model_order) (xy_l L 43 t_graph_direct) (xy_s S 15 1 t_model_lines))))) (fun K => rfl) ?_
  obtain ⟨q1561, hq1561, h⟩ := Option.bind_eq_some_iff.mp h
  have heq1561 := xh_xt_refuseUnless (l := l) (g := g) ok (xy_a (xy_a A 16 t_model_number) 19 t_model_order) (xy_l L 43 t_graph_direct) (xy_s S 15 1 t_model_lines) s0 _ hq1561
  rcases xb_sum h with ⟨r1562, hr1562, h⟩ | ⟨r1562, hr1562, h⟩
  · rw [hr1562] at heq1561
    refine xe_call0 (ws' := xw_W (xy_a (xy_a A 16 t_model_number) 19 t_model_order) (xy_l L 43 t_graph_direct) (xy_s S 15 1 t_model_lines)) (by decide) heq1561 (Or.inl rfl) ?_
    refine xe_seg ok 4 (G := (fun K => K (14, xm_i14, xm_I14, 2, 12, 24, [(0, .ref 2), (2, .int v2), (3, .int v3), (4, .int v2), (5, .int ((0 : Int32)))], [], xw_W (xy_a (xy_a A 16 t_model_number) 19 t_model_order) (xy_l L 43 t_graph_direct) (xy_s S 15 1 t_model_lines)))) (fun K => rfl) ?_
    refine xe_k ?_
    refine xe_sub [true, false, true, true, true] (lv' := [(0, .ref 2), (3, .int v3), (4, .int v2), (5, .int ((0 : Int32)))]) rfl ?_
    exact xh_xt_from_0_24 ok A L S t_graph_direct t_model_lines t_model_number t_model_order n n v3 v2 ((0 : Int32)) _ h
  · rw [hr1562] at heq1561
    obtain rfl := Option.some.inj h
    exact xe_thr (E := r1562) (ws' := xw_W (xy_a (xy_a A 16 t_model_number) 19 t_model_order) (xy_l L 43 t_graph_direct) (xy_s S 15 1 t_model_lines)) heq1561 rfl rfl rfl
theorem xh_xt_from_0 {l : Launch} {g : xr_G} (ok : xr_OK xm_P) (A : Nat → Nat → Int32) (L : Nat → Nat → Int64) (S : Nat → Nat → Int32) (t_graph_direct : (Nat → Int64)) (t_model_lines : Int32) (t_model_number : (Nat → Int32)) (t_model_order : (Nat → Int32)) (n : Nat) : ∀ (a1 : Int32) (a2 : Int32) (r : ((Int32 ⊕ String))), xf_xt_from t_graph_direct t_model_lines t_model_number t_model_order n a1 a2 = some r → xV xm_P l g (14, xm_i14, xm_I14, 0, 0, 0, [(0, .ref 2), (1, .int a1), (2, .int a2)], [], xw_W (xy_a (xy_a A 16 t_model_number) 19 t_model_order) (xy_l L 43 t_graph_direct) (xy_s S 15 1 t_model_lines)) (xo_i r, xw_W (xy_a (xy_a A 16 t_model_number) 19 t_model_order) (xy_l L 43 t_graph_direct) (xy_s S 15 1 t_model_lines)) := by
  intro a1 a2 r h
  unfold xf_xt_from at h
  refine xe_seg ok 3 (G := (fun K => xr_back K 14 xm_i14 xm_I14 1 6 2 [(0, .ref 2), (1, .int a1), (2, .int a2)] [] 78 true (K (22, xm_i22, xm_I22, 0, 0, 0, [(0, .ref 2), (1, .int a1)], [], xw_W (xy_a (xy_a A 16 t_model_number) 19 t_model_order) (xy_l L 43 t_graph_direct) (xy_s S 15 1 t_model_lines))))) (fun K => rfl) ?_
  obtain ⟨q1558, hq1558, h⟩ := Option.bind_eq_some_iff.mp h
  have heq1558 := xh_xt_rowOrRefuse_0 (l := l) (g := g) ok (xy_a (xy_a A 16 t_model_number) 19 t_model_order) (xy_l L 43 t_graph_direct) (xy_s S 15 1 t_model_lines) t_model_lines t_model_number t_model_order n a1 _ hq1558
  rcases xb_sum h with ⟨r1559, hr1559, h⟩ | ⟨r1559, hr1559, h⟩
  · rw [hr1559] at heq1558
    refine xe_call1 (ws' := xw_W (xy_a (xy_a A 16 t_model_number) 19 t_model_order) (xy_l L 43 t_graph_direct) (xy_s S 15 1 t_model_lines)) (by decide) heq1558 (Or.inl rfl) ?_
    refine xe_seg ok 3 (G := (fun K => if a2 < (0 : Int32) then K (14, xm_i14, xm_I14, 1, 6, 14, [(0, .ref 2), (1, .int a1), (2, .int a2), (3, .int r1559)], [], xw_W (xy_a (xy_a A 16 t_model_number) 19 t_model_order) (xy_l L 43 t_graph_direct) (xy_s S 15 1 t_model_lines)) else K (14, xm_i14, xm_I14, 1, 6, 10, [(0, .ref 2), (1, .int a1), (2, .int a2), (3, .int r1559)], [], xw_W (xy_a (xy_a A 16 t_model_number) 19 t_model_order) (xy_l L 43 t_graph_direct) (xy_s S 15 1 t_model_lines)))) (fun K => rfl) ?_
    rcases xb_if h with ⟨hc1560, h⟩ | ⟨hc1560, h⟩
    · refine xe_pos hc1560 (xe_k ?_)
      refine xe_seg ok 1 (G := (fun K => K (14, xm_i14, xm_I14, 1, 6, 15, [(0, .ref 2), (1, .int a1), (2, .int a2), (3, .int r1559)], [.int ((0 : Int32))], xw_W (xy_a (xy_a A 16 t_model_number) 19 t_model_order) (xy_l L 43 t_graph_direct) (xy_s S 15 1 t_model_lines)))) (fun K => rfl) ?_
      refine xe_k ?_
      refine xe_sub [true, false, true, true] (lv' := [(0, .ref 2), (2, .int a2), (3, .int r1559)]) rfl ?_
      exact xh_xt_from_0_15 ok A L S t_graph_direct t_model_lines t_model_number t_model_order n a2 r1559 ((0 : Int32)) _ h
    · refine xe_neg hc1560 (xe_k ?_)
      refine xe_seg ok 2 (G := (fun K => K (14, xm_i14, xm_I14, 1, 6, 15, [(0, .ref 2), (1, .int a1), (2, .int a2), (3, .int r1559)], [.int ((1 : Int32))], xw_W (xy_a (xy_a A 16 t_model_number) 19 t_model_order) (xy_l L 43 t_graph_direct) (xy_s S 15 1 t_model_lines)))) (fun K => rfl) ?_
      refine xe_k ?_
      refine xe_sub [true, false, true, true] (lv' := [(0, .ref 2), (2, .int a2), (3, .int r1559)]) rfl ?_
      exact xh_xt_from_0_15 ok A L S t_graph_direct t_model_lines t_model_number t_model_order n a2 r1559 ((1 : Int32)) _ h
  · rw [hr1559] at heq1558
    obtain rfl := Option.some.inj h
    exact xe_thr (E := r1559) (ws' := xw_W (xy_a (xy_a A 16 t_model_number) 19 t_model_order) (xy_l L 43 t_graph_direct) (xy_s S 15 1 t_model_lines)) heq1558 rfl rfl rfl
theorem xh_la_from_0_77 {l : Launch} {g : xr_G} (ok : xr_OK xm_P) (A : Nat → Nat → Int32) (L : Nat → Nat → Int64) (S : Nat → Nat → Int32) (p1_graph_direct : (Nat → Int64)) (p1_model_lines : Int32) (p1_model_number : (Nat → Int32)) (p1_model_order : (Nat → Int32)) (n_p4 : Nat) (n : Nat) : ∀ (p4 : (Nat → Int64)) (a2 : Int32) (a3 : Int32) (r : (Int32 × (Nat → Int64))), xf_la_from p1_graph_direct p1_model_lines p1_model_number p1_model_order n_p4 n p4 a2 a3 = some r → xV xm_P l g (180, xm_i180, xm_I180, 0, 0, 0, [(0, .ref 2), (1, .int a2), (2, .int a3), (3, .ref 79)], [], xw_W (xy_a (xy_a A 16 p1_model_number) 19 p1_model_order) (xy_l (xy_l L 43 p1_graph_direct) 77 p4) (xy_s S 15 1 p1_model_lines)) (.inl (some (.int r.1)), xw_W (xy_a (xy_a A 16 p1_model_number) 19 p1_model_order) (xy_l (xy_l L 43 p1_graph_direct) 77 r.2) (xy_s S 15 1 p1_model_lines)) := by
  intro p4 a2 a3 r h
  unfold xf_la_from at h
  refine xe_seg ok 6 (G := (fun K => xr_back K 180 xm_i180 xm_I180 2 12 5 [(0, .ref 2), (1, .int a2), (2, .int a3), (3, .ref 79)] [.int ((0 : Int32)), .ref 79] 78 true (K (14, xm_i14, xm_I14, 0, 0, 0, [(0, .ref 2), (1, .int a2), (2, .int a3)], [], xw_W (xy_a (xy_a A 16 p1_model_number) 19 p1_model_order) (xy_l (xy_l L 43 p1_graph_direct) 77 p4) (xy_s S 15 1 p1_model_lines))))) (fun K => rfl) ?_
  obtain ⟨q1572, hq1572, h⟩ := Option.bind_eq_some_iff.mp h
  have heq1572 := xh_xt_from_0 (l := l) (g := g) ok (xy_a (xy_a A 16 p1_model_number) 19 p1_model_order) (xy_l (xy_l L 43 p1_graph_direct) 77 p4) (xy_s S 15 1 p1_model_lines) p1_graph_direct p1_model_lines p1_model_number p1_model_order n a2 a3 _ hq1572
  rcases xb_sum h with ⟨r1573, hr1573, h⟩ | ⟨r1573, hr1573, h⟩
  · rw [hr1573] at heq1572
    refine xe_call1 (ws' := xw_W (xy_a (xy_a A 16 p1_model_number) 19 p1_model_order) (xy_l (xy_l L 43 p1_graph_direct) 77 p4) (xy_s S 15 1 p1_model_lines)) (by decide) heq1572 (Or.inl rfl) ?_
    refine xe_seg ok 2 (G := (fun K => if xr_in ((0 : Int32)) 1 = true then K (180, xm_i180, xm_I180, 2, 12, 10, [(0, .ref 2), (1, .int a2), (2, .int a3), (3, .ref 79)], [], xw_W (xy_a (xy_a A 16 p1_model_number) 19 p1_model_order) (xy_l (xy_l L 43 p1_graph_direct) 77 (vp_updL p4 ((0 : Int32)).toNatClampNeg r1573.toInt64)) (xy_s S 15 1 p1_model_lines)) else none)) (fun K => rfl) ?_
    obtain ⟨hg1574, h⟩ := xn_if h
    refine xe_pos hg1574 (xe_k ?_)
    obtain rfl := Option.some.inj h
    refine xe_seg ok 3 (G := (fun _ => some (.inl (some (.int ((0 : Int32)))), xw_W (xy_a (xy_a A 16 p1_model_number) 19 p1_model_order) (xy_l (xy_l L 43 p1_graph_direct) 77 (vp_updL p4 ((0 : Int32)).toNatClampNeg r1573.toInt64)) (xy_s S 15 1 p1_model_lines)))) (fun K => rfl) ?_
    exact xe_ret
  · rw [hr1573] at heq1572
    rcases xb_if h with ⟨hc1575, h⟩ | ⟨hc1575, h⟩
    · subst hc1575
      refine xe_catch (ws' := xw_W (xy_a (xy_a A 16 p1_model_number) 19 p1_model_order) (xy_l (xy_l L 43 p1_graph_direct) 77 p4) (xy_s S 15 1 p1_model_lines)) (by decide) heq1572 (q' := (180, xm_i180, xm_I180, 2, 12, 15, [(0, .ref 2), (1, .int a2), (2, .int a3), (3, .ref 79)], [], xw_W (xy_a (xy_a A 16 p1_model_number) 19 p1_model_order) (xy_l (xy_l L 43 p1_graph_direct) 77 p4) (xy_s S 15 1 p1_model_lines))) (fun K => rfl) ?_
      obtain rfl := Option.some.inj h
      refine xe_seg ok 2 (G := (fun _ => some (.inl (some (.int ((1 : Int32)))), xw_W (xy_a (xy_a A 16 p1_model_number) 19 p1_model_order) (xy_l (xy_l L 43 p1_graph_direct) 77 p4) (xy_s S 15 1 p1_model_lines)))) (fun K => rfl) ?_
      exact xe_ret
    · cases h
theorem xh_gr_comesBack_42_20 {l : Launch} {g : xr_G} (ok : xr_OK xm_P) (A : Nat → Nat → Int32) (L : Nat → Nat → Int64) (S : Nat → Nat → Int32) (t_reach : (Nat → Int64)) : ∀ (s0 : Int32) (r : (Int32)), xf_gr_comesBack_20 t_reach s0 = some r → xV xm_P l g (94, xm_i94, xm_I94, 0, 0, 20, [], [.int s0], xw_W A (xy_l L 44 t_reach) S) (.inl (some (.int r)), xw_W A (xy_l L 44 t_reach) S) := by
  intro s0 r h
  unfold xf_gr_comesBack_20 at h
  refine xe_seg ok 1 (G := (fun _ => if fits .boolean (.int s0) = true then some (.inl (some (.int s0)), xw_W A (xy_l L 44 t_reach) S) else none)) (fun K => rfl) ?_
  obtain ⟨hg1583, h⟩ := xn_if h
  obtain rfl := Option.some.inj h
  exact xe_pos (A := fun _ => some (.inl (some (.int s0)), xw_W A (xy_l L 44 t_reach) S)) (B := fun _ => none) hg1583 xe_ret
theorem xh_gr_comesBack_42 {l : Launch} {g : xr_G} (ok : xr_OK xm_P) (A : Nat → Nat → Int32) (L : Nat → Nat → Int64) (S : Nat → Nat → Int32) (t_reach : (Nat → Int64)) : ∀ (a1 : Int32) (r : (Int32)), xf_gr_comesBack t_reach a1 = some r → xV xm_P l g (94, xm_i94, xm_I94, 0, 0, 0, [(0, .ref 44), (1, .int a1)], [], xw_W A (xy_l L 44 t_reach) S) (.inl (some (.int r)), xw_W A (xy_l L 44 t_reach) S) := by
  intro a1 r h
  unfold xf_gr_comesBack at h
  refine xe_seg ok 4 (G := (fun K => if xr_in a1 40 = true then K (94, xm_i94, xm_I94, 0, 0, 6, [(0, .ref 44), (1, .int a1)], [.long (t_reach a1.toNatClampNeg)], xw_W A (xy_l L 44 t_reach) S) else none)) (fun K => rfl) ?_
  obtain ⟨hg1581, h⟩ := xn_if h
  refine xe_pos hg1581 (xe_k ?_)
  refine xe_seg ok 7 (G := (fun K => if (lg_cmp ((xe_ushr (t_reach a1.toNatClampNeg) a1) &&& ((1 : Int64))) ((0 : Int64))) = (0 : Int32) then K (94, xm_i94, xm_I94, 0, 0, 19, [(0, .ref 44), (1, .int a1)], [], xw_W A (xy_l L 44 t_reach) S) else K (94, xm_i94, xm_I94, 0, 0, 15, [(0, .ref 44), (1, .int a1)], [], xw_W A (xy_l L 44 t_reach) S))) (fun K => rfl) ?_
  rcases xb_if h with ⟨hc1582, h⟩ | ⟨hc1582, h⟩
  · refine xe_pos hc1582 (xe_k ?_)
    refine xe_seg ok 1 (G := (fun K => K (94, xm_i94, xm_I94, 0, 0, 20, [(0, .ref 44), (1, .int a1)], [.int ((0 : Int32))], xw_W A (xy_l L 44 t_reach) S))) (fun K => rfl) ?_
    refine xe_k ?_
    refine xe_sub [false, false] (lv' := []) rfl ?_
    exact xh_gr_comesBack_42_20 ok A L S t_reach ((0 : Int32)) _ h
  · refine xe_neg hc1582 (xe_k ?_)
    refine xe_seg ok 2 (G := (fun K => K (94, xm_i94, xm_I94, 0, 0, 20, [(0, .ref 44), (1, .int a1)], [.int ((1 : Int32))], xw_W A (xy_l L 44 t_reach) S))) (fun K => rfl) ?_
    refine xe_k ?_
    refine xe_sub [false, false] (lv' := []) rfl ?_
    exact xh_gr_comesBack_42_20 ok A L S t_reach ((1 : Int32)) _ h
theorem xh_xt_ring_0_67 {l : Launch} {g : xr_G} (ok : xr_OK xm_P) (A : Nat → Nat → Int32) (L : Nat → Nat → Int64) (S : Nat → Nat → Int32) (t_graph_reach : (Nat → Int64)) (t_model_lines : Int32) (t_model_number : (Nat → Int32)) (t_model_order : (Nat → Int32)) {k16 : Int32 → Int32 → Option ((Int32 ⊕ String))} (hk16 : ∀ (v2 : Int32) (v3 : Int32) (r : ((Int32 ⊕ String))), k16 v2 v3 = some r → xV xm_P l g (15, xm_i15, xm_I15, 1, 6, 16, [(0, .ref 2), (2, .int v2), (3, .int v3)], [], xw_W (xy_a (xy_a A 16 t_model_number) 19 t_model_order) (xy_l L 44 t_graph_reach) (xy_s S 15 1 t_model_lines)) (xo_i r, xw_W (xy_a (xy_a A 16 t_model_number) 19 t_model_order) (xy_l L 44 t_graph_reach) (xy_s S 15 1 t_model_lines))) (n : Nat) : ∀ (v2 : Int32) (v3 : Int32) (r : ((Int32 ⊕ String))), xf_xt_ring_67 t_graph_reach t_model_lines t_model_number t_model_order k16 n v2 v3 = some r → xV xm_P l g (15, xm_i15, xm_I15, 1, 6, 67, [(0, .ref 2), (2, .int v2), (3, .int v3)], [], xw_W (xy_a (xy_a A 16 t_model_number) 19 t_model_order) (xy_l L 44 t_graph_reach) (xy_s S 15 1 t_model_lines)) (xo_i r, xw_W (xy_a (xy_a A 16 t_model_number) 19 t_model_order) (xy_l L 44 t_graph_reach) (xy_s S 15 1 t_model_lines)) := by
  intro v2 v3 r h
  unfold xf_xt_ring_67 at h
  refine xe_seg ok 2 (G := (fun K => K (15, xm_i15, xm_I15, 1, 6, 16, [(0, .ref 2), (2, .int v2), (3, .int (v3 + (1 : Int32)))], [], xw_W (xy_a (xy_a A 16 t_model_number) 19 t_model_order) (xy_l L 44 t_graph_reach) (xy_s S 15 1 t_model_lines)))) (fun K => rfl) ?_
  refine xe_k ?_
  refine xe_sub [true, true, true] (lv' := [(0, .ref 2), (2, .int v2), (3, .int (v3 + (1 : Int32)))]) rfl ?_
  exact hk16 v2 (v3 + (1 : Int32)) _ h
theorem xh_xt_ring_0_16 {l : Launch} {g : xr_G} (ok : xr_OK xm_P) (A : Nat → Nat → Int32) (L : Nat → Nat → Int64) (S : Nat → Nat → Int32) (t_graph_reach : (Nat → Int64)) (t_model_lines : Int32) (t_model_number : (Nat → Int32)) (t_model_order : (Nat → Int32)) (n : Nat) : ∀ (N : Nat) (v2 : Int32) (v3 : Int32) (r : ((Int32 ⊕ String))), xf_xt_ring_16 t_graph_reach t_model_lines t_model_number t_model_order n N v2 v3 = some r → xV xm_P l g (15, xm_i15, xm_I15, 1, 6, 16, [(0, .ref 2), (2, .int v2), (3, .int v3)], [], xw_W (xy_a (xy_a A 16 t_model_number) 19 t_model_order) (xy_l L 44 t_graph_reach) (xy_s S 15 1 t_model_lines)) (xo_i r, xw_W (xy_a (xy_a A 16 t_model_number) 19 t_model_order) (xy_l L 44 t_graph_reach) (xy_s S 15 1 t_model_lines)) := by
  intro N
  induction N with
  | zero => intro v2 v3 r h; cases h
  | succ N hk16 =>
    intro v2 v3 r h
    refine xe_seg ok 5 (G := (fun K => if v3 < t_model_lines then K (15, xm_i15, xm_I15, 1, 6, 27, [(0, .ref 2), (2, .int v2), (3, .int v3)], [], xw_W (xy_a (xy_a A 16 t_model_number) 19 t_model_order) (xy_l L 44 t_graph_reach) (xy_s S 15 1 t_model_lines)) else K (15, xm_i15, xm_I15, 1, 6, 73, [(0, .ref 2), (2, .int v2), (3, .int v3)], [], xw_W (xy_a (xy_a A 16 t_model_number) 19 t_model_order) (xy_l L 44 t_graph_reach) (xy_s S 15 1 t_model_lines)))) (fun K => rfl) ?_
    rcases xb_if h with ⟨hc1579, h⟩ | ⟨hc1579, h⟩
    · refine xe_pos hc1579 (xe_k ?_)
      refine xe_seg ok 4 (G := (fun K => xr_back K 15 xm_i15 xm_I15 1 6 32 [(0, .ref 2), (2, .int v2), (3, .int v3)] [] 78 true (K (113, xm_i113, xm_I113, 0, 0, 0, [(0, .ref 17), (1, .int v3)], [], xw_W (xy_a (xy_a A 16 t_model_number) 19 t_model_order) (xy_l L 44 t_graph_reach) (xy_s S 15 1 t_model_lines))))) (fun K => rfl) ?_
      obtain ⟨q1580, hq1580, h⟩ := Option.bind_eq_some_iff.mp h
      have heq1580 := xh_md_rowAt_15 (l := l) (g := g) ok (xy_a (xy_a A 16 t_model_number) 19 t_model_order) (xy_l L 44 t_graph_reach) (xy_s S 15 1 t_model_lines) t_model_lines t_model_order v3 _ hq1580
      refine xe_call1 (ws' := xw_W (xy_a (xy_a A 16 t_model_number) 19 t_model_order) (xy_l L 44 t_graph_reach) (xy_s S 15 1 t_model_lines)) (by decide) heq1580 (Or.inl rfl) ?_
      refine xe_seg ok 5 (G := (fun K => xr_back K 15 xm_i15 xm_I15 1 6 43 [(0, .ref 2), (2, .int v2), (3, .int v3), (4, .int q1580)] [] 78 true (K (94, xm_i94, xm_I94, 0, 0, 0, [(0, .ref 44), (1, .int q1580)], [], xw_W (xy_a (xy_a A 16 t_model_number) 19 t_model_order) (xy_l L 44 t_graph_reach) (xy_s S 15 1 t_model_lines))))) (fun K => rfl) ?_
      obtain ⟨q1584, hq1584, h⟩ := Option.bind_eq_some_iff.mp h
      have heq1584 := xh_gr_comesBack_42 (l := l) (g := g) ok (xy_a (xy_a A 16 t_model_number) 19 t_model_order) (xy_l L 44 t_graph_reach) (xy_s S 15 1 t_model_lines) t_graph_reach q1580 _ hq1584
      refine xe_call1 (ws' := xw_W (xy_a (xy_a A 16 t_model_number) 19 t_model_order) (xy_l L 44 t_graph_reach) (xy_s S 15 1 t_model_lines)) (by decide) heq1584 (Or.inl rfl) ?_
      refine xe_seg ok 1 (G := (fun K => if q1584 = (0 : Int32) then K (15, xm_i15, xm_I15, 1, 6, 67, [(0, .ref 2), (2, .int v2), (3, .int v3), (4, .int q1580)], [], xw_W (xy_a (xy_a A 16 t_model_number) 19 t_model_order) (xy_l L 44 t_graph_reach) (xy_s S 15 1 t_model_lines)) else K (15, xm_i15, xm_I15, 1, 6, 49, [(0, .ref 2), (2, .int v2), (3, .int v3), (4, .int q1580)], [], xw_W (xy_a (xy_a A 16 t_model_number) 19 t_model_order) (xy_l L 44 t_graph_reach) (xy_s S 15 1 t_model_lines)))) (fun K => rfl) ?_
      rcases xb_if h with ⟨hc1585, h⟩ | ⟨hc1585, h⟩
      · refine xe_pos hc1585 (xe_k ?_)
        refine xe_sub [true, true, true, false] (lv' := [(0, .ref 2), (2, .int v2), (3, .int v3)]) rfl ?_
        exact xh_xt_ring_0_67 ok A L S t_graph_reach t_model_lines t_model_number t_model_order hk16 n v2 v3 _ h
      · refine xe_neg hc1585 (xe_k ?_)
        refine xe_seg ok 2 (G := (fun K => if v2 = (0 : Int32) then K (15, xm_i15, xm_I15, 1, 6, 53, [(0, .ref 2), (2, .int v2), (3, .int v3), (4, .int q1580)], [], xw_W (xy_a (xy_a A 16 t_model_number) 19 t_model_order) (xy_l L 44 t_graph_reach) (xy_s S 15 1 t_model_lines)) else K (15, xm_i15, xm_I15, 1, 6, 64, [(0, .ref 2), (2, .int v2), (3, .int v3), (4, .int q1580)], [], xw_W (xy_a (xy_a A 16 t_model_number) 19 t_model_order) (xy_l L 44 t_graph_reach) (xy_s S 15 1 t_model_lines)))) (fun K => rfl) ?_
        rcases xb_if h with ⟨hc1586, h⟩ | ⟨hc1586, h⟩
        · refine xe_pos hc1586 (xe_k ?_)
          refine xe_seg ok 5 (G := (fun K => if xr_in q1580 40 = true then K (15, xm_i15, xm_I15, 1, 6, 63, [(0, .ref 2), (2, .int v2), (3, .int v3), (4, .int q1580)], [.int (t_model_number q1580.toNatClampNeg)], xw_W (xy_a (xy_a A 16 t_model_number) 19 t_model_order) (xy_l L 44 t_graph_reach) (xy_s S 15 1 t_model_lines)) else none)) (fun K => rfl) ?_
          obtain ⟨hg1587, h⟩ := xn_if h
          refine xe_pos hg1587 (xe_k ?_)
          obtain rfl := Option.some.inj h
          refine xe_seg ok 1 (G := (fun _ => some (.inl (some (.int (t_model_number q1580.toNatClampNeg))), xw_W (xy_a (xy_a A 16 t_model_number) 19 t_model_order) (xy_l L 44 t_graph_reach) (xy_s S 15 1 t_model_lines)))) (fun K => rfl) ?_
          exact xe_ret
        · refine xe_neg hc1586 (xe_k ?_)
          refine xe_seg ok 1 (G := (fun K => K (15, xm_i15, xm_I15, 1, 6, 67, [(0, .ref 2), (2, .int (v2 + (-1 : Int32))), (3, .int v3), (4, .int q1580)], [], xw_W (xy_a (xy_a A 16 t_model_number) 19 t_model_order) (xy_l L 44 t_graph_reach) (xy_s S 15 1 t_model_lines)))) (fun K => rfl) ?_
          refine xe_k ?_
          refine xe_sub [true, true, true, false] (lv' := [(0, .ref 2), (2, .int (v2 + (-1 : Int32))), (3, .int v3)]) rfl ?_
          exact xh_xt_ring_0_67 ok A L S t_graph_reach t_model_lines t_model_number t_model_order hk16 n (v2 + (-1 : Int32)) v3 _ h
    · refine xe_neg hc1579 (xe_k ?_)
      obtain rfl := Option.some.inj h
      refine xe_seg ok 2 (G := (fun _ => some (.inl (some (.int ((-1 : Int32)))), xw_W (xy_a (xy_a A 16 t_model_number) 19 t_model_order) (xy_l L 44 t_graph_reach) (xy_s S 15 1 t_model_lines)))) (fun K => rfl) ?_
      exact xe_ret
theorem xh_xt_ring_0_9 {l : Launch} {g : xr_G} (ok : xr_OK xm_P) (A : Nat → Nat → Int32) (L : Nat → Nat → Int64) (S : Nat → Nat → Int32) (t_graph_reach : (Nat → Int64)) (t_model_lines : Int32) (t_model_number : (Nat → Int32)) (t_model_order : (Nat → Int32)) (n : Nat) : ∀ (v1 : Int32) (s0 : Int32) (r : ((Int32 ⊕ String))), xf_xt_ring_9 t_graph_reach t_model_lines t_model_number t_model_order n v1 s0 = some r → xV xm_P l g (15, xm_i15, xm_I15, 0, 0, 9, [(0, .ref 2), (1, .int v1)], [.int s0], xw_W (xy_a (xy_a A 16 t_model_number) 19 t_model_order) (xy_l L 44 t_graph_reach) (xy_s S 15 1 t_model_lines)) (xo_i r, xw_W (xy_a (xy_a A 16 t_model_number) 19 t_model_order) (xy_l L 44 t_graph_reach) (xy_s S 15 1 t_model_lines)) := by
  intro v1 s0 r h
  unfold xf_xt_ring_9 at h
  refine xe_seg ok 1 (G := (fun K => xr_back K 15 xm_i15 xm_I15 1 6 9 [(0, .ref 2), (1, .int v1)] [] 78 true (K (21, xm_i21, xm_I21, 0, 0, 0, [(0, .int s0)], [], xw_W (xy_a (xy_a A 16 t_model_number) 19 t_model_order) (xy_l L 44 t_graph_reach) (xy_s S 15 1 t_model_lines))))) (fun K => rfl) ?_
  obtain ⟨q1577, hq1577, h⟩ := Option.bind_eq_some_iff.mp h
  have heq1577 := xh_xt_refuseUnless (l := l) (g := g) ok (xy_a (xy_a A 16 t_model_number) 19 t_model_order) (xy_l L 44 t_graph_reach) (xy_s S 15 1 t_model_lines) s0 _ hq1577
  rcases xb_sum h with ⟨r1578, hr1578, h⟩ | ⟨r1578, hr1578, h⟩
  · rw [hr1578] at heq1577
    refine xe_call0 (ws' := xw_W (xy_a (xy_a A 16 t_model_number) 19 t_model_order) (xy_l L 44 t_graph_reach) (xy_s S 15 1 t_model_lines)) (by decide) heq1577 (Or.inl rfl) ?_
    refine xe_seg ok 4 (G := (fun K => K (15, xm_i15, xm_I15, 1, 6, 16, [(0, .ref 2), (1, .int v1), (2, .int v1), (3, .int ((0 : Int32)))], [], xw_W (xy_a (xy_a A 16 t_model_number) 19 t_model_order) (xy_l L 44 t_graph_reach) (xy_s S 15 1 t_model_lines)))) (fun K => rfl) ?_
    refine xe_k ?_
    refine xe_sub [true, false, true, true] (lv' := [(0, .ref 2), (2, .int v1), (3, .int ((0 : Int32)))]) rfl ?_
    exact xh_xt_ring_0_16 ok A L S t_graph_reach t_model_lines t_model_number t_model_order n n v1 ((0 : Int32)) _ h
  · rw [hr1578] at heq1577
    obtain rfl := Option.some.inj h
    exact xe_thr (E := r1578) (ws' := xw_W (xy_a (xy_a A 16 t_model_number) 19 t_model_order) (xy_l L 44 t_graph_reach) (xy_s S 15 1 t_model_lines)) heq1577 rfl rfl rfl
theorem xh_xt_ring_0 {l : Launch} {g : xr_G} (ok : xr_OK xm_P) (A : Nat → Nat → Int32) (L : Nat → Nat → Int64) (S : Nat → Nat → Int32) (t_graph_reach : (Nat → Int64)) (t_model_lines : Int32) (t_model_number : (Nat → Int32)) (t_model_order : (Nat → Int32)) (n : Nat) : ∀ (a1 : Int32) (r : ((Int32 ⊕ String))), xf_xt_ring t_graph_reach t_model_lines t_model_number t_model_order n a1 = some r → xV xm_P l g (15, xm_i15, xm_I15, 0, 0, 0, [(0, .ref 2), (1, .int a1)], [], xw_W (xy_a (xy_a A 16 t_model_number) 19 t_model_order) (xy_l L 44 t_graph_reach) (xy_s S 15 1 t_model_lines)) (xo_i r, xw_W (xy_a (xy_a A 16 t_model_number) 19 t_model_order) (xy_l L 44 t_graph_reach) (xy_s S 15 1 t_model_lines)) := by
  intro a1 r h
  unfold xf_xt_ring at h
  refine xe_seg ok 2 (G := (fun K => if a1 < (0 : Int32) then K (15, xm_i15, xm_I15, 0, 0, 8, [(0, .ref 2), (1, .int a1)], [], xw_W (xy_a (xy_a A 16 t_model_number) 19 t_model_order) (xy_l L 44 t_graph_reach) (xy_s S 15 1 t_model_lines)) else K (15, xm_i15, xm_I15, 0, 0, 4, [(0, .ref 2), (1, .int a1)], [], xw_W (xy_a (xy_a A 16 t_model_number) 19 t_model_order) (xy_l L 44 t_graph_reach) (xy_s S 15 1 t_model_lines)))) (fun K => rfl) ?_
  rcases xb_if h with ⟨hc1576, h⟩ | ⟨hc1576, h⟩
  · refine xe_pos hc1576 (xe_k ?_)
    refine xe_seg ok 1 (G := (fun K => K (15, xm_i15, xm_I15, 0, 0, 9, [(0, .ref 2), (1, .int a1)], [.int ((0 : Int32))], xw_W (xy_a (xy_a A 16 t_model_number) 19 t_model_order) (xy_l L 44 t_graph_reach) (xy_s S 15 1 t_model_lines)))) (fun K => rfl) ?_
    refine xe_k ?_
    refine xe_sub [true, true] (lv' := [(0, .ref 2), (1, .int a1)]) rfl ?_
    exact xh_xt_ring_0_9 ok A L S t_graph_reach t_model_lines t_model_number t_model_order n a1 ((0 : Int32)) _ h
  · refine xe_neg hc1576 (xe_k ?_)
    refine xe_seg ok 2 (G := (fun K => K (15, xm_i15, xm_I15, 0, 0, 9, [(0, .ref 2), (1, .int a1)], [.int ((1 : Int32))], xw_W (xy_a (xy_a A 16 t_model_number) 19 t_model_order) (xy_l L 44 t_graph_reach) (xy_s S 15 1 t_model_lines)))) (fun K => rfl) ?_
    refine xe_k ?_
    refine xe_sub [true, true] (lv' := [(0, .ref 2), (1, .int a1)]) rfl ?_
    exact xh_xt_ring_0_9 ok A L S t_graph_reach t_model_lines t_model_number t_model_order n a1 ((1 : Int32)) _ h
theorem xh_la_ring_0_77 {l : Launch} {g : xr_G} (ok : xr_OK xm_P) (A : Nat → Nat → Int32) (L : Nat → Nat → Int64) (S : Nat → Nat → Int32) (p1_graph_reach : (Nat → Int64)) (p1_model_lines : Int32) (p1_model_number : (Nat → Int32)) (p1_model_order : (Nat → Int32)) (n_p3 : Nat) (n : Nat) : ∀ (p3 : (Nat → Int64)) (a2 : Int32) (r : (Int32 × (Nat → Int64))), xf_la_ring p1_graph_reach p1_model_lines p1_model_number p1_model_order n_p3 n p3 a2 = some r → xV xm_P l g (181, xm_i181, xm_I181, 0, 0, 0, [(0, .ref 2), (1, .int a2), (2, .ref 79)], [], xw_W (xy_a (xy_a A 16 p1_model_number) 19 p1_model_order) (xy_l (xy_l L 44 p1_graph_reach) 77 p3) (xy_s S 15 1 p1_model_lines)) (.inl (some (.int r.1)), xw_W (xy_a (xy_a A 16 p1_model_number) 19 p1_model_order) (xy_l (xy_l L 44 p1_graph_reach) 77 r.2) (xy_s S 15 1 p1_model_lines)) := by
  intro p3 a2 r h
  unfold xf_la_ring at h
  refine xe_seg ok 5 (G := (fun K => xr_back K 181 xm_i181 xm_I181 1 6 4 [(0, .ref 2), (1, .int a2), (2, .ref 79)] [.int ((0 : Int32)), .ref 79] 78 true (K (15, xm_i15, xm_I15, 0, 0, 0, [(0, .ref 2), (1, .int a2)], [], xw_W (xy_a (xy_a A 16 p1_model_number) 19 p1_model_order) (xy_l (xy_l L 44 p1_graph_reach) 77 p3) (xy_s S 15 1 p1_model_lines))))) (fun K => rfl) ?_
  obtain ⟨q1588, hq1588, h⟩ := Option.bind_eq_some_iff.mp h
  have heq1588 := xh_xt_ring_0 (l := l) (g := g) ok (xy_a (xy_a A 16 p1_model_number) 19 p1_model_order) (xy_l (xy_l L 44 p1_graph_reach) 77 p3) (xy_s S 15 1 p1_model_lines) p1_graph_reach p1_model_lines p1_model_number p1_model_order n a2 _ hq1588
  rcases xb_sum h with ⟨r1589, hr1589, h⟩ | ⟨r1589, hr1589, h⟩
  · rw [hr1589] at heq1588
    refine xe_call1 (ws' := xw_W (xy_a (xy_a A 16 p1_model_number) 19 p1_model_order) (xy_l (xy_l L 44 p1_graph_reach) 77 p3) (xy_s S 15 1 p1_model_lines)) (by decide) heq1588 (Or.inl rfl) ?_
    refine xe_seg ok 2 (G := (fun K => if xr_in ((0 : Int32)) 1 = true then K (181, xm_i181, xm_I181, 1, 6, 9, [(0, .ref 2), (1, .int a2), (2, .ref 79)], [], xw_W (xy_a (xy_a A 16 p1_model_number) 19 p1_model_order) (xy_l (xy_l L 44 p1_graph_reach) 77 (vp_updL p3 ((0 : Int32)).toNatClampNeg r1589.toInt64)) (xy_s S 15 1 p1_model_lines)) else none)) (fun K => rfl) ?_
    obtain ⟨hg1590, h⟩ := xn_if h
    refine xe_pos hg1590 (xe_k ?_)
    obtain rfl := Option.some.inj h
    refine xe_seg ok 3 (G := (fun _ => some (.inl (some (.int ((0 : Int32)))), xw_W (xy_a (xy_a A 16 p1_model_number) 19 p1_model_order) (xy_l (xy_l L 44 p1_graph_reach) 77 (vp_updL p3 ((0 : Int32)).toNatClampNeg r1589.toInt64)) (xy_s S 15 1 p1_model_lines)))) (fun K => rfl) ?_
    exact xe_ret
  · rw [hr1589] at heq1588
    rcases xb_if h with ⟨hc1591, h⟩ | ⟨hc1591, h⟩
    · subst hc1591
      refine xe_catch (ws' := xw_W (xy_a (xy_a A 16 p1_model_number) 19 p1_model_order) (xy_l (xy_l L 44 p1_graph_reach) 77 p3) (xy_s S 15 1 p1_model_lines)) (by decide) heq1588 (q' := (181, xm_i181, xm_I181, 1, 6, 13, [(0, .ref 2), (1, .int a2), (2, .ref 79)], [], xw_W (xy_a (xy_a A 16 p1_model_number) 19 p1_model_order) (xy_l (xy_l L 44 p1_graph_reach) 77 p3) (xy_s S 15 1 p1_model_lines))) (fun K => rfl) ?_
      obtain rfl := Option.some.inj h
      refine xe_seg ok 2 (G := (fun _ => some (.inl (some (.int ((1 : Int32)))), xw_W (xy_a (xy_a A 16 p1_model_number) 19 p1_model_order) (xy_l (xy_l L 44 p1_graph_reach) 77 p3) (xy_s S 15 1 p1_model_lines)))) (fun K => rfl) ?_
      exact xe_ret
    · cases h
theorem xh_md_isPlaced_15_73 {l : Launch} {g : xr_G} (ok : xr_OK xm_P) (A : Nat → Nat → Int32) (L : Nat → Nat → Int64) (S : Nat → Nat → Int32) (t_size : (Nat → Int32)) (t_sort : (Nat → Int32)) (n : Nat) : ∀ (s0 : Int32) (r : (Int32)), xf_md_isPlaced_73 t_size t_sort n s0 = some r → xV xm_P l g (124, xm_i124, xm_I124, 0, 0, 73, [], [.int s0], xw_W (xy_a (xy_a A 18 t_size) 20 t_sort) L S) (.inl (some (.int r)), xw_W (xy_a (xy_a A 18 t_size) 20 t_sort) L S) := by
  intro s0 r h
  unfold xf_md_isPlaced_73 at h
  refine xe_seg ok 1 (G := (fun _ => if fits .boolean (.int s0) = true then some (.inl (some (.int s0)), xw_W (xy_a (xy_a A 18 t_size) 20 t_sort) L S) else none)) (fun K => rfl) ?_
  obtain ⟨hg1604, h⟩ := xn_if h
  obtain rfl := Option.some.inj h
  exact xe_pos (A := fun _ => some (.inl (some (.int s0)), xw_W (xy_a (xy_a A 18 t_size) 20 t_sort) L S)) (B := fun _ => none) hg1604 xe_ret
theorem xh_md_isPlaced_15_68 {l : Launch} {g : xr_G} (ok : xr_OK xm_P) (A : Nat → Nat → Int32) (L : Nat → Nat → Int64) (S : Nat → Nat → Int32) (t_size : (Nat → Int32)) (t_sort : (Nat → Int32)) (n : Nat) : ∀  (r : (Int32)), xf_md_isPlaced_68 t_size t_sort n  = some r → xV xm_P l g (124, xm_i124, xm_I124, 0, 0, 68, [], [], xw_W (xy_a (xy_a A 18 t_size) 20 t_sort) L S) (.inl (some (.int r)), xw_W (xy_a (xy_a A 18 t_size) 20 t_sort) L S) := by
  intro  r h
  unfold xf_md_isPlaced_68 at h
  refine xe_seg ok 2 (G := (fun K => K (124, xm_i124, xm_I124, 0, 0, 73, [], [.int ((1 : Int32))], xw_W (xy_a (xy_a A 18 t_size) 20 t_sort) L S))) (fun K => rfl) ?_
  refine xe_k ?_
  refine xe_sub [] (lv' := []) rfl ?_
  exact xh_md_isPlaced_15_73 ok A L S t_size t_sort n ((1 : Int32)) _ h
theorem xh_md_isPlaced_15_19 {l : Launch} {g : xr_G} (ok : xr_OK xm_P) (A : Nat → Nat → Int32) (L : Nat → Nat → Int64) (S : Nat → Nat → Int32) (t_size : (Nat → Int32)) (t_sort : (Nat → Int32)) (n : Nat) : ∀ (N : Nat) (v2 : Int32) (v3 : Int32) (r : (Int32)), xf_md_isPlaced_19 t_size t_sort n N v2 v3 = some r → xV xm_P l g (124, xm_i124, xm_I124, 0, 0, 19, [(0, .ref 17), (2, .int v2), (3, .int v3)], [], xw_W (xy_a (xy_a A 18 t_size) 20 t_sort) L S) (.inl (some (.int r)), xw_W (xy_a (xy_a A 18 t_size) 20 t_sort) L S) := by
  intro N
  induction N with
  | zero => intro v2 v3 r h; cases h
  | succ N hk19 =>
    intro v2 v3 r h
    refine xe_seg ok 3 (G := (fun K => if v3 < ((3 : Int32)) then K (124, xm_i124, xm_I124, 0, 0, 24, [(0, .ref 17), (2, .int v2), (3, .int v3)], [], xw_W (xy_a (xy_a A 18 t_size) 20 t_sort) L S) else K (124, xm_i124, xm_I124, 0, 0, 43, [(0, .ref 17), (2, .int v2), (3, .int v3)], [], xw_W (xy_a (xy_a A 18 t_size) 20 t_sort) L S))) (fun K => rfl) ?_
    rcases xb_if h with ⟨hc1599, h⟩ | ⟨hc1599, h⟩
    · refine xe_pos hc1599 (xe_k ?_)
      refine xe_seg ok 6 (G := (fun K => if xr_in (v2 + v3) 320 = true then K (124, xm_i124, xm_I124, 0, 0, 32, [(0, .ref 17), (2, .int v2), (3, .int v3)], [.int (t_sort (v2 + v3).toNatClampNeg)], xw_W (xy_a (xy_a A 18 t_size) 20 t_sort) L S) else none)) (fun K => rfl) ?_
      obtain ⟨hg1600, h⟩ := xn_if h
      refine xe_pos hg1600 (xe_k ?_)
      refine xe_seg ok 1 (G := (fun K => if (t_sort (v2 + v3).toNatClampNeg) = (0 : Int32) then K (124, xm_i124, xm_I124, 0, 0, 37, [(0, .ref 17), (2, .int v2), (3, .int v3)], [], xw_W (xy_a (xy_a A 18 t_size) 20 t_sort) L S) else K (124, xm_i124, xm_I124, 0, 0, 35, [(0, .ref 17), (2, .int v2), (3, .int v3)], [], xw_W (xy_a (xy_a A 18 t_size) 20 t_sort) L S))) (fun K => rfl) ?_
      rcases xb_if h with ⟨hc1601, h⟩ | ⟨hc1601, h⟩
      · refine xe_pos hc1601 (xe_k ?_)
        refine xe_seg ok 2 (G := (fun K => K (124, xm_i124, xm_I124, 0, 0, 19, [(0, .ref 17), (2, .int v2), (3, .int (v3 + (1 : Int32)))], [], xw_W (xy_a (xy_a A 18 t_size) 20 t_sort) L S))) (fun K => rfl) ?_
        refine xe_k ?_
        refine xe_sub [true, true, true] (lv' := [(0, .ref 17), (2, .int v2), (3, .int (v3 + (1 : Int32)))]) rfl ?_
        exact hk19 v2 (v3 + (1 : Int32)) _ h
      · refine xe_neg hc1601 (xe_k ?_)
        obtain rfl := Option.some.inj h
        refine xe_seg ok 2 (G := (fun _ => some (.inl (some (.int ((0 : Int32)))), xw_W (xy_a (xy_a A 18 t_size) 20 t_sort) L S))) (fun K => rfl) ?_
        exact xe_ret
    · refine xe_neg hc1599 (xe_k ?_)
      refine xe_seg ok 6 (G := (fun K => if xr_in (v2 + ((3 : Int32))) 320 = true then K (124, xm_i124, xm_I124, 0, 0, 51, [(0, .ref 17), (2, .int v2), (3, .int v3)], [.int (t_sort (v2 + ((3 : Int32))).toNatClampNeg)], xw_W (xy_a (xy_a A 18 t_size) 20 t_sort) L S) else none)) (fun K => rfl) ?_
      obtain ⟨hg1602, h⟩ := xn_if h
      refine xe_pos hg1602 (xe_k ?_)
      refine xe_seg ok 2 (G := (fun K => if (t_sort (v2 + ((3 : Int32))).toNatClampNeg) = ((2 : Int32)) then K (124, xm_i124, xm_I124, 0, 0, 68, [(0, .ref 17), (2, .int v2), (3, .int v3)], [], xw_W (xy_a (xy_a A 18 t_size) 20 t_sort) L S) else K (124, xm_i124, xm_I124, 0, 0, 55, [(0, .ref 17), (2, .int v2), (3, .int v3)], [], xw_W (xy_a (xy_a A 18 t_size) 20 t_sort) L S))) (fun K => rfl) ?_
      rcases xb_if h with ⟨hc1603, h⟩ | ⟨hc1603, h⟩
      · refine xe_pos hc1603 (xe_k ?_)
        refine xe_sub [false, false, false] (lv' := []) rfl ?_
        exact xh_md_isPlaced_15_68 ok A L S t_size t_sort n _ h
      · refine xe_neg hc1603 (xe_k ?_)
        refine xe_seg ok 6 (G := (fun K => if xr_in (v2 + ((3 : Int32))) 320 = true then K (124, xm_i124, xm_I124, 0, 0, 63, [(0, .ref 17), (2, .int v2), (3, .int v3)], [.int (t_sort (v2 + ((3 : Int32))).toNatClampNeg)], xw_W (xy_a (xy_a A 18 t_size) 20 t_sort) L S) else none)) (fun K => rfl) ?_
        obtain ⟨hg1605, h⟩ := xn_if h
        refine xe_pos hg1605 (xe_k ?_)
        refine xe_seg ok 2 (G := (fun K => if (t_sort (v2 + ((3 : Int32))).toNatClampNeg) = ((6 : Int32)) then K (124, xm_i124, xm_I124, 0, 0, 68, [(0, .ref 17), (2, .int v2), (3, .int v3)], [], xw_W (xy_a (xy_a A 18 t_size) 20 t_sort) L S) else K (124, xm_i124, xm_I124, 0, 0, 72, [(0, .ref 17), (2, .int v2), (3, .int v3)], [], xw_W (xy_a (xy_a A 18 t_size) 20 t_sort) L S))) (fun K => rfl) ?_
        rcases xb_if h with ⟨hc1606, h⟩ | ⟨hc1606, h⟩
        · refine xe_pos hc1606 (xe_k ?_)
          refine xe_sub [false, false, false] (lv' := []) rfl ?_
          exact xh_md_isPlaced_15_68 ok A L S t_size t_sort n _ h
        · refine xe_neg hc1606 (xe_k ?_)
          refine xe_seg ok 1 (G := (fun K => K (124, xm_i124, xm_I124, 0, 0, 73, [(0, .ref 17), (2, .int v2), (3, .int v3)], [.int ((0 : Int32))], xw_W (xy_a (xy_a A 18 t_size) 20 t_sort) L S))) (fun K => rfl) ?_
          refine xe_k ?_
          refine xe_sub [false, false, false] (lv' := []) rfl ?_
          exact xh_md_isPlaced_15_73 ok A L S t_size t_sort n ((0 : Int32)) _ h
