theorem xh_rf_say_57_129 {l : Launch} {g : xr_G} (ok : xr_OK xm_P) (A : Nat → Nat → Int32) (L : Nat → Nat → Int64) (S : Nat → Nat → Int32) (n : Nat) : ∀ (N : Nat) (t_size : Int32) (t_text : (Nat → Int32)) (t_thrown : Int32) (v1 : Int64) (v5 : Int32) (r : (Int32 × Int32 × (Nat → Int32) × Int32)), xf_rf_say_129 n N t_size t_text t_thrown v1 v5 = some r → xV xm_P l g (33, xm_i33, xm_I33, 0, 0, 129, [(0, .ref 59), (1, .long v1), (5, .int v5)], [], xw_W (xy_a A 58 t_text) L (xy_s (xy_s S 57 1 t_size) 57 0 t_thrown)) (.inl (some (.int r.1)), xw_W (xy_a A 58 r.2.2.1) L (xy_s (xy_s S 57 1 r.2.1) 57 0 r.2.2.2)) := by
  intro N
  induction N with
  | zero => intro t_size t_text t_thrown v1 v5 r h; cases h
  | succ N hk129 =>
    intro t_size t_text t_thrown v1 v5 r h
    refine xe_seg ok 2 (G := (fun K => if v5 < (0 : Int32) then K (33, xm_i33, xm_I33, 0, 0, 177, [(0, .ref 59), (1, .long v1), (5, .int v5)], [], xw_W (xy_a A 58 t_text) L (xy_s (xy_s S 57 1 t_size) 57 0 t_thrown)) else K (33, xm_i33, xm_I33, 0, 0, 134, [(0, .ref 59), (1, .long v1), (5, .int v5)], [], xw_W (xy_a A 58 t_text) L (xy_s (xy_s S 57 1 t_size) 57 0 t_thrown)))) (fun K => rfl) ?_
    rcases xb_if h with ⟨hc584, h⟩ | ⟨hc584, h⟩
    · refine xe_pos hc584 (xe_k ?_)
      obtain rfl := Option.some.inj h
      refine xe_seg ok 3 (G := (fun _ => some (.inl (some (.int t_size)), xw_W (xy_a A 58 t_text) L (xy_s (xy_s S 57 1 t_size) 57 0 t_thrown)))) (fun K => rfl) ?_
      exact xe_ret
    · refine xe_neg hc584 (xe_k ?_)
      refine xe_seg ok 9 (G := (fun K => if (0 : Int32) < (((xe_shr v1 v5) &&& ((255 : Int64))).toInt32) then K (33, xm_i33, xm_I33, 0, 0, 150, [(0, .ref 59), (1, .long v1), (5, .int v5), (6, .int (((xe_shr v1 v5) &&& ((255 : Int64))).toInt32))], [], xw_W (xy_a A 58 t_text) L (xy_s (xy_s S 57 1 t_size) 57 0 t_thrown)) else K (33, xm_i33, xm_I33, 0, 0, 171, [(0, .ref 59), (1, .long v1), (5, .int v5), (6, .int (((xe_shr v1 v5) &&& ((255 : Int64))).toInt32))], [], xw_W (xy_a A 58 t_text) L (xy_s (xy_s S 57 1 t_size) 57 0 t_thrown)))) (fun K => rfl) ?_
      rcases xb_if h with ⟨hc585, h⟩ | ⟨hc585, h⟩
      · refine xe_pos hc585 (xe_k ?_)
        refine xe_seg ok 6 (G := (fun K => if xr_in t_size 1200 = true then K (33, xm_i33, xm_I33, 0, 0, 161, [(0, .ref 59), (1, .long v1), (5, .int v5), (6, .int (((xe_shr v1 v5) &&& ((255 : Int64))).toInt32))], [], xw_W (xy_a A 58 (upd t_text t_size.toNatClampNeg ((((xe_shr v1 v5) &&& ((255 : Int64))).toInt32)))) L (xy_s (xy_s S 57 1 t_size) 57 0 t_thrown)) else none)) (fun K => rfl) ?_
        obtain ⟨hg586, h⟩ := xn_if h
        refine xe_pos hg586 (xe_k ?_)
        refine xe_seg ok 6 (G := (fun K => K (33, xm_i33, xm_I33, 0, 0, 171, [(0, .ref 59), (1, .long v1), (5, .int v5), (6, .int (((xe_shr v1 v5) &&& ((255 : Int64))).toInt32))], [], xw_W (xy_a A 58 (upd t_text t_size.toNatClampNeg ((((xe_shr v1 v5) &&& ((255 : Int64))).toInt32)))) L (xy_s (xy_s S 57 1 (t_size + ((1 : Int32)))) 57 0 t_thrown)))) (fun K => rfl) ?_
        refine xe_k ?_
        refine xe_sub [true, true, true, false] (lv' := [(0, .ref 59), (1, .long v1), (5, .int v5)]) rfl ?_
        exact xh_rf_say_57_171 ok A L S hk129 n (t_size + ((1 : Int32))) (upd t_text t_size.toNatClampNeg ((((xe_shr v1 v5) &&& ((255 : Int64))).toInt32))) t_thrown v1 v5 _ h
      · refine xe_neg hc585 (xe_k ?_)
        refine xe_sub [true, true, true, false] (lv' := [(0, .ref 59), (1, .long v1), (5, .int v5)]) rfl ?_
        exact xh_rf_say_57_171 ok A L S hk129 n t_size t_text t_thrown v1 v5 _ h
theorem xh_rf_say_57_123 {l : Launch} {g : xr_G} (ok : xr_OK xm_P) (A : Nat → Nat → Int32) (L : Nat → Nat → Int64) (S : Nat → Nat → Int32) (n : Nat) : ∀ (t_size : Int32) (t_text : (Nat → Int32)) (t_thrown : Int32) (r : (Int32 × Int32 × (Nat → Int32) × Int32)), xf_rf_say_123 n t_size t_text t_thrown = some r → xV xm_P l g (33, xm_i33, xm_I33, 0, 0, 123, [], [], xw_W (xy_a A 58 t_text) L (xy_s (xy_s S 57 1 t_size) 57 0 t_thrown)) (.inl (some (.int r.1)), xw_W (xy_a A 58 r.2.2.1) L (xy_s (xy_s S 57 1 r.2.1) 57 0 r.2.2.2)) := by
  intro t_size t_text t_thrown r h
  unfold xf_rf_say_123 at h
  obtain rfl := Option.some.inj h
  refine xe_seg ok 2 (G := (fun _ => some (.inl (some (.int ((0 : Int32)))), xw_W (xy_a A 58 t_text) L (xy_s (xy_s S 57 1 t_size) 57 0 t_thrown)))) (fun K => rfl) ?_
  exact xe_ret
theorem xh_rf_say_57_116 {l : Launch} {g : xr_G} (ok : xr_OK xm_P) (A : Nat → Nat → Int32) (L : Nat → Nat → Int64) (S : Nat → Nat → Int32) (n : Nat) : ∀ (t_size : Int32) (t_text : (Nat → Int32)) (t_thrown : Int32) (v1 : Int64) (s1 : Int32) (r : (Int32 × Int32 × (Nat → Int32) × Int32)), xf_rf_say_116 n t_size t_text t_thrown v1 s1 = some r → xV xm_P l g (33, xm_i33, xm_I33, 0, 0, 116, [(0, .ref 59), (1, .long v1)], [.int s1, .ref 59], xw_W (xy_a A 58 t_text) L (xy_s (xy_s S 57 1 t_size) 57 0 t_thrown)) (.inl (some (.int r.1)), xw_W (xy_a A 58 r.2.2.1) L (xy_s (xy_s S 57 1 r.2.1) 57 0 r.2.2.2)) := by
  intro t_size t_text t_thrown v1 s1 r h
  unfold xf_rf_say_116 at h
  refine xe_seg ok 2 (G := (fun K => xr_back K 33 xm_i33 xm_I33 0 0 117 [(0, .ref 59), (1, .long v1)] [] 78 true (K (32, xm_i32, xm_I32, 0, 0, 0, [(0, .ref 59), (1, .int s1), (2, .int ((2 : Int32)))], [], xw_W (xy_a A 58 t_text) L (xy_s (xy_s S 57 1 t_size) 57 0 t_thrown))))) (fun K => rfl) ?_
  obtain ⟨q582, hq582, h⟩ := Option.bind_eq_some_iff.mp h
  have heq582 := xh_rf_fails_57 (l := l) (g := g) ok (xy_a A 58 t_text) L (xy_s (xy_s S 57 1 t_size) 57 0 t_thrown) t_thrown s1 ((2 : Int32)) _ hq582
  refine xe_call1 (ws' := xw_W (xy_a A 58 t_text) L (xy_s (xy_s S 57 1 t_size) 57 0 q582.2)) (by decide) heq582 (Or.inl rfl) ?_
  refine xe_seg ok 1 (G := (fun K => if q582.1 = (0 : Int32) then K (33, xm_i33, xm_I33, 0, 0, 125, [(0, .ref 59), (1, .long v1)], [], xw_W (xy_a A 58 t_text) L (xy_s (xy_s S 57 1 t_size) 57 0 q582.2)) else K (33, xm_i33, xm_I33, 0, 0, 123, [(0, .ref 59), (1, .long v1)], [], xw_W (xy_a A 58 t_text) L (xy_s (xy_s S 57 1 t_size) 57 0 q582.2)))) (fun K => rfl) ?_
  rcases xb_if h with ⟨hc583, h⟩ | ⟨hc583, h⟩
  · refine xe_pos hc583 (xe_k ?_)
    refine xe_seg ok 2 (G := (fun K => K (33, xm_i33, xm_I33, 0, 0, 129, [(0, .ref 59), (1, .long v1), (5, .int ((56 : Int32)))], [], xw_W (xy_a A 58 t_text) L (xy_s (xy_s S 57 1 t_size) 57 0 q582.2)))) (fun K => rfl) ?_
    refine xe_k ?_
    refine xe_sub [true, true, true] (lv' := [(0, .ref 59), (1, .long v1), (5, .int ((56 : Int32)))]) rfl ?_
    exact xh_rf_say_57_129 ok A L S n n t_size t_text q582.2 v1 ((56 : Int32)) _ h
  · refine xe_neg hc583 (xe_k ?_)
    refine xe_sub [false, false] (lv' := []) rfl ?_
    exact xh_rf_say_57_123 ok A L S n t_size t_text q582.2 _ h
theorem xh_rf_say_57_91 {l : Launch} {g : xr_G} (ok : xr_OK xm_P) (A : Nat → Nat → Int32) (L : Nat → Nat → Int64) (S : Nat → Nat → Int32) (n : Nat) : ∀ (t_size : Int32) (t_text : (Nat → Int32)) (t_thrown : Int32) (v1 : Int64) (v3 : Int32) (s1 : Int32) (r : (Int32 × Int32 × (Nat → Int32) × Int32)), xf_rf_say_91 n t_size t_text t_thrown v1 v3 s1 = some r → xV xm_P l g (33, xm_i33, xm_I33, 0, 0, 91, [(0, .ref 59), (1, .long v1), (3, .int v3)], [.int s1, .ref 59], xw_W (xy_a A 58 t_text) L (xy_s (xy_s S 57 1 t_size) 57 0 t_thrown)) (.inl (some (.int r.1)), xw_W (xy_a A 58 r.2.2.1) L (xy_s (xy_s S 57 1 r.2.1) 57 0 r.2.2.2)) := by
  intro t_size t_text t_thrown v1 v3 s1 r h
  unfold xf_rf_say_91 at h
  refine xe_seg ok 2 (G := (fun K => xr_back K 33 xm_i33 xm_I33 0 0 92 [(0, .ref 59), (1, .long v1), (3, .int v3)] [] 78 true (K (32, xm_i32, xm_I32, 0, 0, 0, [(0, .ref 59), (1, .int s1), (2, .int ((1 : Int32)))], [], xw_W (xy_a A 58 t_text) L (xy_s (xy_s S 57 1 t_size) 57 0 t_thrown))))) (fun K => rfl) ?_
  obtain ⟨q579, hq579, h⟩ := Option.bind_eq_some_iff.mp h
  have heq579 := xh_rf_fails_57 (l := l) (g := g) ok (xy_a A 58 t_text) L (xy_s (xy_s S 57 1 t_size) 57 0 t_thrown) t_thrown s1 ((1 : Int32)) _ hq579
  refine xe_call1 (ws' := xw_W (xy_a A 58 t_text) L (xy_s (xy_s S 57 1 t_size) 57 0 q579.2)) (by decide) heq579 (Or.inl rfl) ?_
  refine xe_seg ok 1 (G := (fun K => if q579.1 = (0 : Int32) then K (33, xm_i33, xm_I33, 0, 0, 98, [(0, .ref 59), (1, .long v1), (3, .int v3)], [], xw_W (xy_a A 58 t_text) L (xy_s (xy_s S 57 1 t_size) 57 0 q579.2)) else K (33, xm_i33, xm_I33, 0, 0, 123, [(0, .ref 59), (1, .long v1), (3, .int v3)], [], xw_W (xy_a A 58 t_text) L (xy_s (xy_s S 57 1 t_size) 57 0 q579.2)))) (fun K => rfl) ?_
  rcases xb_if h with ⟨hc580, h⟩ | ⟨hc580, h⟩
  · refine xe_pos hc580 (xe_k ?_)
    refine xe_seg ok 7 (G := (fun K => if ((1200 : Int32)) < (t_size + v3) then K (33, xm_i33, xm_I33, 0, 0, 111, [(0, .ref 59), (1, .long v1), (3, .int v3)], [.ref 59], xw_W (xy_a A 58 t_text) L (xy_s (xy_s S 57 1 t_size) 57 0 q579.2)) else K (33, xm_i33, xm_I33, 0, 0, 115, [(0, .ref 59), (1, .long v1), (3, .int v3)], [.ref 59], xw_W (xy_a A 58 t_text) L (xy_s (xy_s S 57 1 t_size) 57 0 q579.2)))) (fun K => rfl) ?_
    rcases xb_if h with ⟨hc581, h⟩ | ⟨hc581, h⟩
    · refine xe_pos hc581 (xe_k ?_)
      refine xe_seg ok 2 (G := (fun K => K (33, xm_i33, xm_I33, 0, 0, 116, [(0, .ref 59), (1, .long v1), (3, .int v3)], [.int ((1 : Int32)), .ref 59], xw_W (xy_a A 58 t_text) L (xy_s (xy_s S 57 1 t_size) 57 0 q579.2)))) (fun K => rfl) ?_
      refine xe_k ?_
      refine xe_sub [true, true, false] (lv' := [(0, .ref 59), (1, .long v1)]) rfl ?_
      exact xh_rf_say_57_116 ok A L S n t_size t_text q579.2 v1 ((1 : Int32)) _ h
    · refine xe_neg hc581 (xe_k ?_)
      refine xe_seg ok 1 (G := (fun K => K (33, xm_i33, xm_I33, 0, 0, 116, [(0, .ref 59), (1, .long v1), (3, .int v3)], [.int ((0 : Int32)), .ref 59], xw_W (xy_a A 58 t_text) L (xy_s (xy_s S 57 1 t_size) 57 0 q579.2)))) (fun K => rfl) ?_
      refine xe_k ?_
      refine xe_sub [true, true, false] (lv' := [(0, .ref 59), (1, .long v1)]) rfl ?_
      exact xh_rf_say_57_116 ok A L S n t_size t_text q579.2 v1 ((0 : Int32)) _ h
  · refine xe_neg hc580 (xe_k ?_)
    refine xe_sub [false, false, false] (lv' := []) rfl ?_
    exact xh_rf_say_57_123 ok A L S n t_size t_text q579.2 _ h
theorem xh_rf_say_57_72 {l : Launch} {g : xr_G} (ok : xr_OK xm_P) (A : Nat → Nat → Int32) (L : Nat → Nat → Int64) (S : Nat → Nat → Int32) {k14 : Int32 → (Nat → Int32) → Int32 → Int64 → Int32 → Int32 → Int32 → Option (Int32 × Int32 × (Nat → Int32) × Int32)} (hk14 : ∀ (t_size : Int32) (t_text : (Nat → Int32)) (t_thrown : Int32) (v1 : Int64) (v3 : Int32) (v4 : Int32) (v5 : Int32) (r : (Int32 × Int32 × (Nat → Int32) × Int32)), k14 t_size t_text t_thrown v1 v3 v4 v5 = some r → xV xm_P l g (33, xm_i33, xm_I33, 0, 0, 14, [(0, .ref 59), (1, .long v1), (3, .int v3), (4, .int v4), (5, .int v5)], [], xw_W (xy_a A 58 t_text) L (xy_s (xy_s S 57 1 t_size) 57 0 t_thrown)) (.inl (some (.int r.1)), xw_W (xy_a A 58 r.2.2.1) L (xy_s (xy_s S 57 1 r.2.1) 57 0 r.2.2.2))) (n : Nat) : ∀ (t_size : Int32) (t_text : (Nat → Int32)) (t_thrown : Int32) (v1 : Int64) (v4 : Int32) (v5 : Int32) (s0 : Int32) (s1 : Int32) (r : (Int32 × Int32 × (Nat → Int32) × Int32)), xf_rf_say_72 k14 n t_size t_text t_thrown v1 v4 v5 s0 s1 = some r → xV xm_P l g (33, xm_i33, xm_I33, 0, 0, 72, [(0, .ref 59), (1, .long v1), (4, .int v4), (5, .int v5)], [.int s1, .int s0], xw_W (xy_a A 58 t_text) L (xy_s (xy_s S 57 1 t_size) 57 0 t_thrown)) (.inl (some (.int r.1)), xw_W (xy_a A 58 r.2.2.1) L (xy_s (xy_s S 57 1 r.2.1) 57 0 r.2.2.2)) := by
  intro t_size t_text t_thrown v1 v4 v5 s0 s1 r h
  unfold xf_rf_say_72 at h
  refine xe_seg ok 4 (G := (fun K => K (33, xm_i33, xm_I33, 0, 0, 14, [(0, .ref 59), (1, .long v1), (3, .int (s0 + s1)), (4, .int v4), (5, .int (v5 + (-8 : Int32)))], [], xw_W (xy_a A 58 t_text) L (xy_s (xy_s S 57 1 t_size) 57 0 t_thrown)))) (fun K => rfl) ?_
  refine xe_k ?_
  refine xe_sub [true, true, true, true, true] (lv' := [(0, .ref 59), (1, .long v1), (3, .int (s0 + s1)), (4, .int v4), (5, .int (v5 + (-8 : Int32)))]) rfl ?_
  exact hk14 t_size t_text t_thrown v1 (s0 + s1) v4 (v5 + (-8 : Int32)) _ h
theorem xh_rf_say_57_59 {l : Launch} {g : xr_G} (ok : xr_OK xm_P) (A : Nat → Nat → Int32) (L : Nat → Nat → Int64) (S : Nat → Nat → Int32) {k14 : Int32 → (Nat → Int32) → Int32 → Int64 → Int32 → Int32 → Int32 → Option (Int32 × Int32 × (Nat → Int32) × Int32)} (hk14 : ∀ (t_size : Int32) (t_text : (Nat → Int32)) (t_thrown : Int32) (v1 : Int64) (v3 : Int32) (v4 : Int32) (v5 : Int32) (r : (Int32 × Int32 × (Nat → Int32) × Int32)), k14 t_size t_text t_thrown v1 v3 v4 v5 = some r → xV xm_P l g (33, xm_i33, xm_I33, 0, 0, 14, [(0, .ref 59), (1, .long v1), (3, .int v3), (4, .int v4), (5, .int v5)], [], xw_W (xy_a A 58 t_text) L (xy_s (xy_s S 57 1 t_size) 57 0 t_thrown)) (.inl (some (.int r.1)), xw_W (xy_a A 58 r.2.2.1) L (xy_s (xy_s S 57 1 r.2.1) 57 0 r.2.2.2))) (n : Nat) : ∀ (t_size : Int32) (t_text : (Nat → Int32)) (t_thrown : Int32) (v1 : Int64) (v3 : Int32) (v5 : Int32) (v6 : Int32) (s0 : Int32) (r : (Int32 × Int32 × (Nat → Int32) × Int32)), xf_rf_say_59 k14 n t_size t_text t_thrown v1 v3 v5 v6 s0 = some r → xV xm_P l g (33, xm_i33, xm_I33, 0, 0, 59, [(0, .ref 59), (1, .long v1), (3, .int v3), (5, .int v5), (6, .int v6)], [.int s0], xw_W (xy_a A 58 t_text) L (xy_s (xy_s S 57 1 t_size) 57 0 t_thrown)) (.inl (some (.int r.1)), xw_W (xy_a A 58 r.2.2.1) L (xy_s (xy_s S 57 1 r.2.1) 57 0 r.2.2.2)) := by
  intro t_size t_text t_thrown v1 v3 v5 v6 s0 r h
  unfold xf_rf_say_59 at h
  refine xe_seg ok 4 (G := (fun K => if v6 = (0 : Int32) then K (33, xm_i33, xm_I33, 0, 0, 67, [(0, .ref 59), (1, .long v1), (3, .int v3), (4, .int s0), (5, .int v5), (6, .int v6)], [.int v3], xw_W (xy_a A 58 t_text) L (xy_s (xy_s S 57 1 t_size) 57 0 t_thrown)) else K (33, xm_i33, xm_I33, 0, 0, 71, [(0, .ref 59), (1, .long v1), (3, .int v3), (4, .int s0), (5, .int v5), (6, .int v6)], [.int v3], xw_W (xy_a A 58 t_text) L (xy_s (xy_s S 57 1 t_size) 57 0 t_thrown)))) (fun K => rfl) ?_
  rcases xb_if h with ⟨hc588, h⟩ | ⟨hc588, h⟩
  · refine xe_pos hc588 (xe_k ?_)
    refine xe_seg ok 2 (G := (fun K => K (33, xm_i33, xm_I33, 0, 0, 72, [(0, .ref 59), (1, .long v1), (3, .int v3), (4, .int s0), (5, .int v5), (6, .int v6)], [.int ((0 : Int32)), .int v3], xw_W (xy_a A 58 t_text) L (xy_s (xy_s S 57 1 t_size) 57 0 t_thrown)))) (fun K => rfl) ?_
    refine xe_k ?_
    refine xe_sub [true, true, false, true, true, false] (lv' := [(0, .ref 59), (1, .long v1), (4, .int s0), (5, .int v5)]) rfl ?_
    exact xh_rf_say_57_72 ok A L S hk14 n t_size t_text t_thrown v1 s0 v5 v3 ((0 : Int32)) _ h
  · refine xe_neg hc588 (xe_k ?_)
    refine xe_seg ok 1 (G := (fun K => K (33, xm_i33, xm_I33, 0, 0, 72, [(0, .ref 59), (1, .long v1), (3, .int v3), (4, .int s0), (5, .int v5), (6, .int v6)], [.int ((1 : Int32)), .int v3], xw_W (xy_a A 58 t_text) L (xy_s (xy_s S 57 1 t_size) 57 0 t_thrown)))) (fun K => rfl) ?_
    refine xe_k ?_
    refine xe_sub [true, true, false, true, true, false] (lv' := [(0, .ref 59), (1, .long v1), (4, .int s0), (5, .int v5)]) rfl ?_
    exact xh_rf_say_57_72 ok A L S hk14 n t_size t_text t_thrown v1 s0 v5 v3 ((1 : Int32)) _ h
theorem xh_rf_say_57_58 {l : Launch} {g : xr_G} (ok : xr_OK xm_P) (A : Nat → Nat → Int32) (L : Nat → Nat → Int64) (S : Nat → Nat → Int32) {k14 : Int32 → (Nat → Int32) → Int32 → Int64 → Int32 → Int32 → Int32 → Option (Int32 × Int32 × (Nat → Int32) × Int32)} (hk14 : ∀ (t_size : Int32) (t_text : (Nat → Int32)) (t_thrown : Int32) (v1 : Int64) (v3 : Int32) (v4 : Int32) (v5 : Int32) (r : (Int32 × Int32 × (Nat → Int32) × Int32)), k14 t_size t_text t_thrown v1 v3 v4 v5 = some r → xV xm_P l g (33, xm_i33, xm_I33, 0, 0, 14, [(0, .ref 59), (1, .long v1), (3, .int v3), (4, .int v4), (5, .int v5)], [], xw_W (xy_a A 58 t_text) L (xy_s (xy_s S 57 1 t_size) 57 0 t_thrown)) (.inl (some (.int r.1)), xw_W (xy_a A 58 r.2.2.1) L (xy_s (xy_s S 57 1 r.2.1) 57 0 r.2.2.2))) (n : Nat) : ∀ (t_size : Int32) (t_text : (Nat → Int32)) (t_thrown : Int32) (v1 : Int64) (v3 : Int32) (v5 : Int32) (v6 : Int32) (r : (Int32 × Int32 × (Nat → Int32) × Int32)), xf_rf_say_58 k14 n t_size t_text t_thrown v1 v3 v5 v6 = some r → xV xm_P l g (33, xm_i33, xm_I33, 0, 0, 58, [(0, .ref 59), (1, .long v1), (3, .int v3), (5, .int v5), (6, .int v6)], [], xw_W (xy_a A 58 t_text) L (xy_s (xy_s S 57 1 t_size) 57 0 t_thrown)) (.inl (some (.int r.1)), xw_W (xy_a A 58 r.2.2.1) L (xy_s (xy_s S 57 1 r.2.1) 57 0 r.2.2.2)) := by
  intro t_size t_text t_thrown v1 v3 v5 v6 r h
  unfold xf_rf_say_58 at h
  refine xe_seg ok 1 (G := (fun K => K (33, xm_i33, xm_I33, 0, 0, 59, [(0, .ref 59), (1, .long v1), (3, .int v3), (5, .int v5), (6, .int v6)], [.int ((0 : Int32))], xw_W (xy_a A 58 t_text) L (xy_s (xy_s S 57 1 t_size) 57 0 t_thrown)))) (fun K => rfl) ?_
  refine xe_k ?_
  refine xe_sub [true, true, true, true, true] (lv' := [(0, .ref 59), (1, .long v1), (3, .int v3), (5, .int v5), (6, .int v6)]) rfl ?_
  exact xh_rf_say_57_59 ok A L S hk14 n t_size t_text t_thrown v1 v3 v5 v6 ((0 : Int32)) _ h
theorem xh_rf_say_57_54 {l : Launch} {g : xr_G} (ok : xr_OK xm_P) (A : Nat → Nat → Int32) (L : Nat → Nat → Int64) (S : Nat → Nat → Int32) {k14 : Int32 → (Nat → Int32) → Int32 → Int64 → Int32 → Int32 → Int32 → Option (Int32 × Int32 × (Nat → Int32) × Int32)} (hk14 : ∀ (t_size : Int32) (t_text : (Nat → Int32)) (t_thrown : Int32) (v1 : Int64) (v3 : Int32) (v4 : Int32) (v5 : Int32) (r : (Int32 × Int32 × (Nat → Int32) × Int32)), k14 t_size t_text t_thrown v1 v3 v4 v5 = some r → xV xm_P l g (33, xm_i33, xm_I33, 0, 0, 14, [(0, .ref 59), (1, .long v1), (3, .int v3), (4, .int v4), (5, .int v5)], [], xw_W (xy_a A 58 t_text) L (xy_s (xy_s S 57 1 t_size) 57 0 t_thrown)) (.inl (some (.int r.1)), xw_W (xy_a A 58 r.2.2.1) L (xy_s (xy_s S 57 1 r.2.1) 57 0 r.2.2.2))) (n : Nat) : ∀ (t_size : Int32) (t_text : (Nat → Int32)) (t_thrown : Int32) (v1 : Int64) (v3 : Int32) (v5 : Int32) (v6 : Int32) (r : (Int32 × Int32 × (Nat → Int32) × Int32)), xf_rf_say_54 k14 n t_size t_text t_thrown v1 v3 v5 v6 = some r → xV xm_P l g (33, xm_i33, xm_I33, 0, 0, 54, [(0, .ref 59), (1, .long v1), (3, .int v3), (5, .int v5), (6, .int v6)], [], xw_W (xy_a A 58 t_text) L (xy_s (xy_s S 57 1 t_size) 57 0 t_thrown)) (.inl (some (.int r.1)), xw_W (xy_a A 58 r.2.2.1) L (xy_s (xy_s S 57 1 r.2.1) 57 0 r.2.2.2)) := by
  intro t_size t_text t_thrown v1 v3 v5 v6 r h
  unfold xf_rf_say_54 at h
  refine xe_seg ok 2 (G := (fun K => K (33, xm_i33, xm_I33, 0, 0, 59, [(0, .ref 59), (1, .long v1), (3, .int v3), (5, .int v5), (6, .int v6)], [.int ((1 : Int32))], xw_W (xy_a A 58 t_text) L (xy_s (xy_s S 57 1 t_size) 57 0 t_thrown)))) (fun K => rfl) ?_
  refine xe_k ?_
  refine xe_sub [true, true, true, true, true] (lv' := [(0, .ref 59), (1, .long v1), (3, .int v3), (5, .int v5), (6, .int v6)]) rfl ?_
  exact xh_rf_say_57_59 ok A L S hk14 n t_size t_text t_thrown v1 v3 v5 v6 ((1 : Int32)) _ h
theorem xh_rf_say_57_14 {l : Launch} {g : xr_G} (ok : xr_OK xm_P) (A : Nat → Nat → Int32) (L : Nat → Nat → Int64) (S : Nat → Nat → Int32) (n : Nat) : ∀ (N : Nat) (t_size : Int32) (t_text : (Nat → Int32)) (t_thrown : Int32) (v1 : Int64) (v3 : Int32) (v4 : Int32) (v5 : Int32) (r : (Int32 × Int32 × (Nat → Int32) × Int32)), xf_rf_say_14 n N t_size t_text t_thrown v1 v3 v4 v5 = some r → xV xm_P l g (33, xm_i33, xm_I33, 0, 0, 14, [(0, .ref 59), (1, .long v1), (3, .int v3), (4, .int v4), (5, .int v5)], [], xw_W (xy_a A 58 t_text) L (xy_s (xy_s S 57 1 t_size) 57 0 t_thrown)) (.inl (some (.int r.1)), xw_W (xy_a A 58 r.2.2.1) L (xy_s (xy_s S 57 1 r.2.1) 57 0 r.2.2.2)) := by
  intro N
  induction N with
  | zero => intro t_size t_text t_thrown v1 v3 v4 v5 r h; cases h
  | succ N hk14 =>
    intro t_size t_text t_thrown v1 v3 v4 v5 r h
    refine xe_seg ok 2 (G := (fun K => if v5 < (0 : Int32) then K (33, xm_i33, xm_I33, 0, 0, 80, [(0, .ref 59), (1, .long v1), (3, .int v3), (4, .int v4), (5, .int v5)], [], xw_W (xy_a A 58 t_text) L (xy_s (xy_s S 57 1 t_size) 57 0 t_thrown)) else K (33, xm_i33, xm_I33, 0, 0, 19, [(0, .ref 59), (1, .long v1), (3, .int v3), (4, .int v4), (5, .int v5)], [], xw_W (xy_a A 58 t_text) L (xy_s (xy_s S 57 1 t_size) 57 0 t_thrown)))) (fun K => rfl) ?_
    rcases xb_if h with ⟨hc573, h⟩ | ⟨hc573, h⟩
    · refine xe_pos hc573 (xe_k ?_)
      refine xe_seg ok 3 (G := (fun K => if v4 = (0 : Int32) then K (33, xm_i33, xm_I33, 0, 0, 86, [(0, .ref 59), (1, .long v1), (3, .int v3), (4, .int v4), (5, .int v5)], [.ref 59], xw_W (xy_a A 58 t_text) L (xy_s (xy_s S 57 1 t_size) 57 0 t_thrown)) else K (33, xm_i33, xm_I33, 0, 0, 90, [(0, .ref 59), (1, .long v1), (3, .int v3), (4, .int v4), (5, .int v5)], [.ref 59], xw_W (xy_a A 58 t_text) L (xy_s (xy_s S 57 1 t_size) 57 0 t_thrown)))) (fun K => rfl) ?_
      rcases xb_if h with ⟨hc574, h⟩ | ⟨hc574, h⟩
      · refine xe_pos hc574 (xe_k ?_)
        refine xe_seg ok 2 (G := (fun K => K (33, xm_i33, xm_I33, 0, 0, 91, [(0, .ref 59), (1, .long v1), (3, .int v3), (4, .int v4), (5, .int v5)], [.int ((1 : Int32)), .ref 59], xw_W (xy_a A 58 t_text) L (xy_s (xy_s S 57 1 t_size) 57 0 t_thrown)))) (fun K => rfl) ?_
        refine xe_k ?_
        refine xe_sub [true, true, true, false, false] (lv' := [(0, .ref 59), (1, .long v1), (3, .int v3)]) rfl ?_
        exact xh_rf_say_57_91 ok A L S n t_size t_text t_thrown v1 v3 ((1 : Int32)) _ h
      · refine xe_neg hc574 (xe_k ?_)
        refine xe_seg ok 1 (G := (fun K => K (33, xm_i33, xm_I33, 0, 0, 91, [(0, .ref 59), (1, .long v1), (3, .int v3), (4, .int v4), (5, .int v5)], [.int ((0 : Int32)), .ref 59], xw_W (xy_a A 58 t_text) L (xy_s (xy_s S 57 1 t_size) 57 0 t_thrown)))) (fun K => rfl) ?_
        refine xe_k ?_
        refine xe_sub [true, true, true, false, false] (lv' := [(0, .ref 59), (1, .long v1), (3, .int v3)]) rfl ?_
        exact xh_rf_say_57_91 ok A L S n t_size t_text t_thrown v1 v3 ((0 : Int32)) _ h
    · refine xe_neg hc573 (xe_k ?_)
      refine xe_seg ok 9 (G := (fun K => if v4 = (0 : Int32) then K (33, xm_i33, xm_I33, 0, 0, 58, [(0, .ref 59), (1, .long v1), (3, .int v3), (4, .int v4), (5, .int v5), (6, .int (((xe_shr v1 v5) &&& ((255 : Int64))).toInt32))], [], xw_W (xy_a A 58 t_text) L (xy_s (xy_s S 57 1 t_size) 57 0 t_thrown)) else K (33, xm_i33, xm_I33, 0, 0, 35, [(0, .ref 59), (1, .long v1), (3, .int v3), (4, .int v4), (5, .int v5), (6, .int (((xe_shr v1 v5) &&& ((255 : Int64))).toInt32))], [], xw_W (xy_a A 58 t_text) L (xy_s (xy_s S 57 1 t_size) 57 0 t_thrown)))) (fun K => rfl) ?_
      rcases xb_if h with ⟨hc587, h⟩ | ⟨hc587, h⟩
      · refine xe_pos hc587 (xe_k ?_)
        refine xe_sub [true, true, true, false, true, true] (lv' := [(0, .ref 59), (1, .long v1), (3, .int v3), (5, .int v5), (6, .int (((xe_shr v1 v5) &&& ((255 : Int64))).toInt32))]) rfl ?_
        exact xh_rf_say_57_58 ok A L S hk14 n t_size t_text t_thrown v1 v3 v5 (((xe_shr v1 v5) &&& ((255 : Int64))).toInt32) _ h
      · refine xe_neg hc587 (xe_k ?_)
        refine xe_seg ok 2 (G := (fun K => if (((xe_shr v1 v5) &&& ((255 : Int64))).toInt32) = (0 : Int32) then K (33, xm_i33, xm_I33, 0, 0, 54, [(0, .ref 59), (1, .long v1), (3, .int v3), (4, .int v4), (5, .int v5), (6, .int (((xe_shr v1 v5) &&& ((255 : Int64))).toInt32))], [], xw_W (xy_a A 58 t_text) L (xy_s (xy_s S 57 1 t_size) 57 0 t_thrown)) else K (33, xm_i33, xm_I33, 0, 0, 40, [(0, .ref 59), (1, .long v1), (3, .int v3), (4, .int v4), (5, .int v5), (6, .int (((xe_shr v1 v5) &&& ((255 : Int64))).toInt32))], [], xw_W (xy_a A 58 t_text) L (xy_s (xy_s S 57 1 t_size) 57 0 t_thrown)))) (fun K => rfl) ?_
        rcases xb_if h with ⟨hc589, h⟩ | ⟨hc589, h⟩
        · refine xe_pos hc589 (xe_k ?_)
          refine xe_sub [true, true, true, false, true, true] (lv' := [(0, .ref 59), (1, .long v1), (3, .int v3), (5, .int v5), (6, .int (((xe_shr v1 v5) &&& ((255 : Int64))).toInt32))]) rfl ?_
          exact xh_rf_say_57_54 ok A L S hk14 n t_size t_text t_thrown v1 v3 v5 (((xe_shr v1 v5) &&& ((255 : Int64))).toInt32) _ h
        · refine xe_neg hc589 (xe_k ?_)
          refine xe_seg ok 3 (G := (fun K => if (((xe_shr v1 v5) &&& ((255 : Int64))).toInt32) < ((32 : Int32)) then K (33, xm_i33, xm_I33, 0, 0, 58, [(0, .ref 59), (1, .long v1), (3, .int v3), (4, .int v4), (5, .int v5), (6, .int (((xe_shr v1 v5) &&& ((255 : Int64))).toInt32))], [], xw_W (xy_a A 58 t_text) L (xy_s (xy_s S 57 1 t_size) 57 0 t_thrown)) else K (33, xm_i33, xm_I33, 0, 0, 47, [(0, .ref 59), (1, .long v1), (3, .int v3), (4, .int v4), (5, .int v5), (6, .int (((xe_shr v1 v5) &&& ((255 : Int64))).toInt32))], [], xw_W (xy_a A 58 t_text) L (xy_s (xy_s S 57 1 t_size) 57 0 t_thrown)))) (fun K => rfl) ?_
          rcases xb_if h with ⟨hc590, h⟩ | ⟨hc590, h⟩
          · refine xe_pos hc590 (xe_k ?_)
            refine xe_sub [true, true, true, false, true, true] (lv' := [(0, .ref 59), (1, .long v1), (3, .int v3), (5, .int v5), (6, .int (((xe_shr v1 v5) &&& ((255 : Int64))).toInt32))]) rfl ?_
            exact xh_rf_say_57_58 ok A L S hk14 n t_size t_text t_thrown v1 v3 v5 (((xe_shr v1 v5) &&& ((255 : Int64))).toInt32) _ h
          · refine xe_neg hc590 (xe_k ?_)
            refine xe_seg ok 3 (G := (fun K => if ((126 : Int32)) < (((xe_shr v1 v5) &&& ((255 : Int64))).toInt32) then K (33, xm_i33, xm_I33, 0, 0, 58, [(0, .ref 59), (1, .long v1), (3, .int v3), (4, .int v4), (5, .int v5), (6, .int (((xe_shr v1 v5) &&& ((255 : Int64))).toInt32))], [], xw_W (xy_a A 58 t_text) L (xy_s (xy_s S 57 1 t_size) 57 0 t_thrown)) else K (33, xm_i33, xm_I33, 0, 0, 54, [(0, .ref 59), (1, .long v1), (3, .int v3), (4, .int v4), (5, .int v5), (6, .int (((xe_shr v1 v5) &&& ((255 : Int64))).toInt32))], [], xw_W (xy_a A 58 t_text) L (xy_s (xy_s S 57 1 t_size) 57 0 t_thrown)))) (fun K => rfl) ?_
            rcases xb_if h with ⟨hc591, h⟩ | ⟨hc591, h⟩
            · refine xe_pos hc591 (xe_k ?_)
              refine xe_sub [true, true, true, false, true, true] (lv' := [(0, .ref 59), (1, .long v1), (3, .int v3), (5, .int v5), (6, .int (((xe_shr v1 v5) &&& ((255 : Int64))).toInt32))]) rfl ?_
              exact xh_rf_say_57_58 ok A L S hk14 n t_size t_text t_thrown v1 v3 v5 (((xe_shr v1 v5) &&& ((255 : Int64))).toInt32) _ h
            · refine xe_neg hc591 (xe_k ?_)
              refine xe_sub [true, true, true, false, true, true] (lv' := [(0, .ref 59), (1, .long v1), (3, .int v3), (5, .int v5), (6, .int (((xe_shr v1 v5) &&& ((255 : Int64))).toInt32))]) rfl ?_
              exact xh_rf_say_57_54 ok A L S hk14 n t_size t_text t_thrown v1 v3 v5 (((xe_shr v1 v5) &&& ((255 : Int64))).toInt32) _ h
theorem xh_rf_say_57 {l : Launch} {g : xr_G} (ok : xr_OK xm_P) (A : Nat → Nat → Int32) (L : Nat → Nat → Int64) (S : Nat → Nat → Int32) (n : Nat) : ∀ (t_size : Int32) (t_text : (Nat → Int32)) (t_thrown : Int32) (a1 : Int64) (r : (Int32 × Int32 × (Nat → Int32) × Int32)), xf_rf_say n t_size t_text t_thrown a1 = some r → xV xm_P l g (33, xm_i33, xm_I33, 0, 0, 0, [(0, .ref 59), (1, .long a1)], [], xw_W (xy_a A 58 t_text) L (xy_s (xy_s S 57 1 t_size) 57 0 t_thrown)) (.inl (some (.int r.1)), xw_W (xy_a A 58 r.2.2.1) L (xy_s (xy_s S 57 1 r.2.1) 57 0 r.2.2.2)) := by
  intro t_size t_text t_thrown a1 r h
  unfold xf_rf_say at h
  refine xe_seg ok 9 (G := (fun K => K (33, xm_i33, xm_I33, 0, 0, 14, [(0, .ref 59), (1, .long a1), (3, .int ((0 : Int32))), (4, .int ((1 : Int32))), (5, .int ((56 : Int32)))], [], xw_W (xy_a A 58 t_text) L (xy_s (xy_s S 57 1 t_size) 57 0 ((0 : Int32)))))) (fun K => rfl) ?_
  refine xe_k ?_
  refine xe_sub [true, true, true, true, true] (lv' := [(0, .ref 59), (1, .long a1), (3, .int ((0 : Int32))), (4, .int ((1 : Int32))), (5, .int ((56 : Int32)))]) rfl ?_
  exact xh_rf_say_57_14 ok A L S n n t_size t_text ((0 : Int32)) a1 ((0 : Int32)) ((1 : Int32)) ((56 : Int32)) _ h
theorem xh_rf_trim_57_23 {l : Launch} {g : xr_G} (ok : xr_OK xm_P) (A : Nat → Nat → Int32) (L : Nat → Nat → Int64) (S : Nat → Nat → Int32) : ∀ (t_size : Int32) (t_thrown : Int32) (v1 : Int32) (s1 : Int32) (r : (Int32 × Int32 × Int32)), xf_rf_trim_23  t_size t_thrown v1 s1 = some r → xV xm_P l g (34, xm_i34, xm_I34, 0, 0, 23, [(0, .ref 59), (1, .int v1)], [.int s1, .ref 59], xw_W A L (xy_s (xy_s S 57 1 t_size) 57 0 t_thrown)) (.inl (some (.int r.1)), xw_W A L (xy_s (xy_s S 57 1 r.2.1) 57 0 r.2.2)) := by
  intro t_size t_thrown v1 s1 r h
  unfold xf_rf_trim_23 at h
  refine xe_seg ok 2 (G := (fun K => xr_back K 34 xm_i34 xm_I34 0 0 24 [(0, .ref 59), (1, .int v1)] [] 78 true (K (32, xm_i32, xm_I32, 0, 0, 0, [(0, .ref 59), (1, .int s1), (2, .int ((1 : Int32)))], [], xw_W A L (xy_s (xy_s S 57 1 t_size) 57 0 t_thrown))))) (fun K => rfl) ?_
  obtain ⟨q593, hq593, h⟩ := Option.bind_eq_some_iff.mp h
  have heq593 := xh_rf_fails_57 (l := l) (g := g) ok A L (xy_s (xy_s S 57 1 t_size) 57 0 t_thrown) t_thrown s1 ((1 : Int32)) _ hq593
  refine xe_call1 (ws' := xw_W A L (xy_s (xy_s S 57 1 t_size) 57 0 q593.2)) (by decide) heq593 (Or.inl rfl) ?_
  refine xe_seg ok 1 (G := (fun K => if q593.1 = (0 : Int32) then K (34, xm_i34, xm_I34, 0, 0, 32, [(0, .ref 59), (1, .int v1)], [], xw_W A L (xy_s (xy_s S 57 1 t_size) 57 0 q593.2)) else K (34, xm_i34, xm_I34, 0, 0, 30, [(0, .ref 59), (1, .int v1)], [], xw_W A L (xy_s (xy_s S 57 1 t_size) 57 0 q593.2)))) (fun K => rfl) ?_
  rcases xb_if h with ⟨hc594, h⟩ | ⟨hc594, h⟩
  · refine xe_pos hc594 (xe_k ?_)
    obtain rfl := Option.some.inj h
    refine xe_seg ok 9 (G := (fun _ => some (.inl (some (.int (t_size - v1))), xw_W A L (xy_s (xy_s S 57 1 (t_size - v1)) 57 0 q593.2)))) (fun K => rfl) ?_
    exact xe_ret
  · refine xe_neg hc594 (xe_k ?_)
    obtain rfl := Option.some.inj h
    refine xe_seg ok 2 (G := (fun _ => some (.inl (some (.int ((0 : Int32)))), xw_W A L (xy_s (xy_s S 57 1 t_size) 57 0 q593.2)))) (fun K => rfl) ?_
    exact xe_ret
theorem xh_rf_trim_57_18 {l : Launch} {g : xr_G} (ok : xr_OK xm_P) (A : Nat → Nat → Int32) (L : Nat → Nat → Int64) (S : Nat → Nat → Int32) : ∀ (t_size : Int32) (t_thrown : Int32) (v1 : Int32) (r : (Int32 × Int32 × Int32)), xf_rf_trim_18  t_size t_thrown v1 = some r → xV xm_P l g (34, xm_i34, xm_I34, 0, 0, 18, [(0, .ref 59), (1, .int v1)], [.ref 59], xw_W A L (xy_s (xy_s S 57 1 t_size) 57 0 t_thrown)) (.inl (some (.int r.1)), xw_W A L (xy_s (xy_s S 57 1 r.2.1) 57 0 r.2.2)) := by
  intro t_size t_thrown v1 r h
  unfold xf_rf_trim_18 at h
  refine xe_seg ok 2 (G := (fun K => K (34, xm_i34, xm_I34, 0, 0, 23, [(0, .ref 59), (1, .int v1)], [.int ((1 : Int32)), .ref 59], xw_W A L (xy_s (xy_s S 57 1 t_size) 57 0 t_thrown)))) (fun K => rfl) ?_
  refine xe_k ?_
  refine xe_sub [true, true] (lv' := [(0, .ref 59), (1, .int v1)]) rfl ?_
  exact xh_rf_trim_57_23 ok A L S t_size t_thrown v1 ((1 : Int32)) _ h
theorem xh_rf_trim_57 {l : Launch} {g : xr_G} (ok : xr_OK xm_P) (A : Nat → Nat → Int32) (L : Nat → Nat → Int64) (S : Nat → Nat → Int32) : ∀ (t_size : Int32) (t_thrown : Int32) (a1 : Int32) (r : (Int32 × Int32 × Int32)), xf_rf_trim  t_size t_thrown a1 = some r → xV xm_P l g (34, xm_i34, xm_I34, 0, 0, 0, [(0, .ref 59), (1, .int a1)], [], xw_W A L (xy_s (xy_s S 57 1 t_size) 57 0 t_thrown)) (.inl (some (.int r.1)), xw_W A L (xy_s (xy_s S 57 1 r.2.1) 57 0 r.2.2)) := by
  intro t_size t_thrown a1 r h
  unfold xf_rf_trim at h
  refine xe_seg ok 6 (G := (fun K => if a1 < (0 : Int32) then K (34, xm_i34, xm_I34, 0, 0, 18, [(0, .ref 59), (1, .int a1)], [.ref 59], xw_W A L (xy_s (xy_s S 57 1 t_size) 57 0 ((0 : Int32)))) else K (34, xm_i34, xm_I34, 0, 0, 10, [(0, .ref 59), (1, .int a1)], [.ref 59], xw_W A L (xy_s (xy_s S 57 1 t_size) 57 0 ((0 : Int32)))))) (fun K => rfl) ?_
  rcases xb_if h with ⟨hc592, h⟩ | ⟨hc592, h⟩
  · refine xe_pos hc592 (xe_k ?_)
    refine xe_sub [true, true] (lv' := [(0, .ref 59), (1, .int a1)]) rfl ?_
    exact xh_rf_trim_57_18 ok A L S t_size ((0 : Int32)) a1 _ h
  · refine xe_neg hc592 (xe_k ?_)
    refine xe_seg ok 4 (G := (fun K => if t_size < a1 then K (34, xm_i34, xm_I34, 0, 0, 18, [(0, .ref 59), (1, .int a1)], [.ref 59], xw_W A L (xy_s (xy_s S 57 1 t_size) 57 0 ((0 : Int32)))) else K (34, xm_i34, xm_I34, 0, 0, 22, [(0, .ref 59), (1, .int a1)], [.ref 59], xw_W A L (xy_s (xy_s S 57 1 t_size) 57 0 ((0 : Int32)))))) (fun K => rfl) ?_
    rcases xb_if h with ⟨hc595, h⟩ | ⟨hc595, h⟩
    · refine xe_pos hc595 (xe_k ?_)
      refine xe_sub [true, true] (lv' := [(0, .ref 59), (1, .int a1)]) rfl ?_
      exact xh_rf_trim_57_18 ok A L S t_size ((0 : Int32)) a1 _ h
    · refine xe_neg hc595 (xe_k ?_)
      refine xe_seg ok 1 (G := (fun K => K (34, xm_i34, xm_I34, 0, 0, 23, [(0, .ref 59), (1, .int a1)], [.int ((0 : Int32)), .ref 59], xw_W A L (xy_s (xy_s S 57 1 t_size) 57 0 ((0 : Int32)))))) (fun K => rfl) ?_
      refine xe_k ?_
      refine xe_sub [true, true] (lv' := [(0, .ref 59), (1, .int a1)]) rfl ?_
      exact xh_rf_trim_57_23 ok A L S t_size ((0 : Int32)) a1 ((0 : Int32)) _ h
theorem xh_rf_charAt_57_40 {l : Launch} {g : xr_G} (ok : xr_OK xm_P) (A : Nat → Nat → Int32) (L : Nat → Nat → Int64) (S : Nat → Nat → Int32) (t_size : Int32) (t_text : (Nat → Int32)) : ∀ (t_thrown : Int32) (s0 : Int32) (r : (Int32 × Int32)), xf_rf_charAt_40 t_size t_text t_thrown s0 = some r → xV xm_P l g (35, xm_i35, xm_I35, 0, 0, 40, [], [.int s0], xw_W (xy_a A 58 t_text) L (xy_s (xy_s S 57 1 t_size) 57 0 t_thrown)) (.inl (some (.int r.1)), xw_W (xy_a A 58 t_text) L (xy_s (xy_s S 57 1 t_size) 57 0 r.2)) := by
  intro t_thrown s0 r h
  unfold xf_rf_charAt_40 at h
  obtain rfl := Option.some.inj h
  refine xe_seg ok 1 (G := (fun _ => some (.inl (some (.int s0)), xw_W (xy_a A 58 t_text) L (xy_s (xy_s S 57 1 t_size) 57 0 t_thrown)))) (fun K => rfl) ?_
  exact xe_ret
theorem xh_rf_charAt_57_23 {l : Launch} {g : xr_G} (ok : xr_OK xm_P) (A : Nat → Nat → Int32) (L : Nat → Nat → Int64) (S : Nat → Nat → Int32) (t_size : Int32) (t_text : (Nat → Int32)) : ∀ (t_thrown : Int32) (v1 : Int32) (s1 : Int32) (r : (Int32 × Int32)), xf_rf_charAt_23 t_size t_text t_thrown v1 s1 = some r → xV xm_P l g (35, xm_i35, xm_I35, 0, 0, 23, [(0, .ref 59), (1, .int v1)], [.int s1, .ref 59], xw_W (xy_a A 58 t_text) L (xy_s (xy_s S 57 1 t_size) 57 0 t_thrown)) (.inl (some (.int r.1)), xw_W (xy_a A 58 t_text) L (xy_s (xy_s S 57 1 t_size) 57 0 r.2)) := by
  intro t_thrown v1 s1 r h
  unfold xf_rf_charAt_23 at h
  refine xe_seg ok 2 (G := (fun K => xr_back K 35 xm_i35 xm_I35 0 0 24 [(0, .ref 59), (1, .int v1)] [] 78 true (K (32, xm_i32, xm_I32, 0, 0, 0, [(0, .ref 59), (1, .int s1), (2, .int ((1 : Int32)))], [], xw_W (xy_a A 58 t_text) L (xy_s (xy_s S 57 1 t_size) 57 0 t_thrown))))) (fun K => rfl) ?_
  obtain ⟨q597, hq597, h⟩ := Option.bind_eq_some_iff.mp h
  have heq597 := xh_rf_fails_57 (l := l) (g := g) ok (xy_a A 58 t_text) L (xy_s (xy_s S 57 1 t_size) 57 0 t_thrown) t_thrown s1 ((1 : Int32)) _ hq597
  refine xe_call1 (ws' := xw_W (xy_a A 58 t_text) L (xy_s (xy_s S 57 1 t_size) 57 0 q597.2)) (by decide) heq597 (Or.inl rfl) ?_
  refine xe_seg ok 1 (G := (fun K => if q597.1 = (0 : Int32) then K (35, xm_i35, xm_I35, 0, 0, 34, [(0, .ref 59), (1, .int v1)], [], xw_W (xy_a A 58 t_text) L (xy_s (xy_s S 57 1 t_size) 57 0 q597.2)) else K (35, xm_i35, xm_I35, 0, 0, 30, [(0, .ref 59), (1, .int v1)], [], xw_W (xy_a A 58 t_text) L (xy_s (xy_s S 57 1 t_size) 57 0 q597.2)))) (fun K => rfl) ?_
  rcases xb_if h with ⟨hc598, h⟩ | ⟨hc598, h⟩
  · refine xe_pos hc598 (xe_k ?_)
    refine xe_seg ok 4 (G := (fun K => if xr_in v1 1200 = true then K (35, xm_i35, xm_I35, 0, 0, 40, [(0, .ref 59), (1, .int v1)], [.int (t_text v1.toNatClampNeg)], xw_W (xy_a A 58 t_text) L (xy_s (xy_s S 57 1 t_size) 57 0 q597.2)) else none)) (fun K => rfl) ?_
    obtain ⟨hg599, h⟩ := xn_if h
    refine xe_pos hg599 (xe_k ?_)
    refine xe_sub [false, false] (lv' := []) rfl ?_
    exact xh_rf_charAt_57_40 ok A L S t_size t_text q597.2 (t_text v1.toNatClampNeg) _ h
  · refine xe_neg hc598 (xe_k ?_)
    refine xe_seg ok 2 (G := (fun K => K (35, xm_i35, xm_I35, 0, 0, 40, [(0, .ref 59), (1, .int v1)], [.int ((0 : Int32))], xw_W (xy_a A 58 t_text) L (xy_s (xy_s S 57 1 t_size) 57 0 q597.2)))) (fun K => rfl) ?_
    refine xe_k ?_
    refine xe_sub [false, false] (lv' := []) rfl ?_
    exact xh_rf_charAt_57_40 ok A L S t_size t_text q597.2 ((0 : Int32)) _ h
theorem xh_rf_charAt_57_18 {l : Launch} {g : xr_G} (ok : xr_OK xm_P) (A : Nat → Nat → Int32) (L : Nat → Nat → Int64) (S : Nat → Nat → Int32) (t_size : Int32) (t_text : (Nat → Int32)) : ∀ (t_thrown : Int32) (v1 : Int32) (r : (Int32 × Int32)), xf_rf_charAt_18 t_size t_text t_thrown v1 = some r → xV xm_P l g (35, xm_i35, xm_I35, 0, 0, 18, [(0, .ref 59), (1, .int v1)], [.ref 59], xw_W (xy_a A 58 t_text) L (xy_s (xy_s S 57 1 t_size) 57 0 t_thrown)) (.inl (some (.int r.1)), xw_W (xy_a A 58 t_text) L (xy_s (xy_s S 57 1 t_size) 57 0 r.2)) := by
  intro t_thrown v1 r h
  unfold xf_rf_charAt_18 at h
  refine xe_seg ok 2 (G := (fun K => K (35, xm_i35, xm_I35, 0, 0, 23, [(0, .ref 59), (1, .int v1)], [.int ((1 : Int32)), .ref 59], xw_W (xy_a A 58 t_text) L (xy_s (xy_s S 57 1 t_size) 57 0 t_thrown)))) (fun K => rfl) ?_
  refine xe_k ?_
  refine xe_sub [true, true] (lv' := [(0, .ref 59), (1, .int v1)]) rfl ?_
  exact xh_rf_charAt_57_23 ok A L S t_size t_text t_thrown v1 ((1 : Int32)) _ h
theorem xh_rf_charAt_57 {l : Launch} {g : xr_G} (ok : xr_OK xm_P) (A : Nat → Nat → Int32) (L : Nat → Nat → Int64) (S : Nat → Nat → Int32) (t_size : Int32) (t_text : (Nat → Int32)) : ∀ (t_thrown : Int32) (a1 : Int32) (r : (Int32 × Int32)), xf_rf_charAt t_size t_text t_thrown a1 = some r → xV xm_P l g (35, xm_i35, xm_I35, 0, 0, 0, [(0, .ref 59), (1, .int a1)], [], xw_W (xy_a A 58 t_text) L (xy_s (xy_s S 57 1 t_size) 57 0 t_thrown)) (.inl (some (.int r.1)), xw_W (xy_a A 58 t_text) L (xy_s (xy_s S 57 1 t_size) 57 0 r.2)) := by
  intro t_thrown a1 r h
  unfold xf_rf_charAt at h
  refine xe_seg ok 6 (G := (fun K => if a1 < (0 : Int32) then K (35, xm_i35, xm_I35, 0, 0, 18, [(0, .ref 59), (1, .int a1)], [.ref 59], xw_W (xy_a A 58 t_text) L (xy_s (xy_s S 57 1 t_size) 57 0 ((0 : Int32)))) else K (35, xm_i35, xm_I35, 0, 0, 10, [(0, .ref 59), (1, .int a1)], [.ref 59], xw_W (xy_a A 58 t_text) L (xy_s (xy_s S 57 1 t_size) 57 0 ((0 : Int32)))))) (fun K => rfl) ?_
  rcases xb_if h with ⟨hc596, h⟩ | ⟨hc596, h⟩
  · refine xe_pos hc596 (xe_k ?_)
    refine xe_sub [true, true] (lv' := [(0, .ref 59), (1, .int a1)]) rfl ?_
    exact xh_rf_charAt_57_18 ok A L S t_size t_text ((0 : Int32)) a1 _ h
  · refine xe_neg hc596 (xe_k ?_)
    refine xe_seg ok 4 (G := (fun K => if a1 < t_size then K (35, xm_i35, xm_I35, 0, 0, 22, [(0, .ref 59), (1, .int a1)], [.ref 59], xw_W (xy_a A 58 t_text) L (xy_s (xy_s S 57 1 t_size) 57 0 ((0 : Int32)))) else K (35, xm_i35, xm_I35, 0, 0, 18, [(0, .ref 59), (1, .int a1)], [.ref 59], xw_W (xy_a A 58 t_text) L (xy_s (xy_s S 57 1 t_size) 57 0 ((0 : Int32)))))) (fun K => rfl) ?_
    rcases xb_if h with ⟨hc600, h⟩ | ⟨hc600, h⟩
    · refine xe_pos hc600 (xe_k ?_)
      refine xe_seg ok 1 (G := (fun K => K (35, xm_i35, xm_I35, 0, 0, 23, [(0, .ref 59), (1, .int a1)], [.int ((0 : Int32)), .ref 59], xw_W (xy_a A 58 t_text) L (xy_s (xy_s S 57 1 t_size) 57 0 ((0 : Int32)))))) (fun K => rfl) ?_
      refine xe_k ?_
      refine xe_sub [true, true] (lv' := [(0, .ref 59), (1, .int a1)]) rfl ?_
      exact xh_rf_charAt_57_23 ok A L S t_size t_text ((0 : Int32)) a1 ((0 : Int32)) _ h
    · refine xe_neg hc600 (xe_k ?_)
      refine xe_sub [true, true] (lv' := [(0, .ref 59), (1, .int a1)]) rfl ?_
      exact xh_rf_charAt_57_18 ok A L S t_size t_text ((0 : Int32)) a1 _ h
theorem xh_rf_peek_57_62 {l : Launch} {g : xr_G} (ok : xr_OK xm_P) (A : Nat → Nat → Int32) (L : Nat → Nat → Int64) (S : Nat → Nat → Int32) (t_size : Int32) (t_text : (Nat → Int32)) (n : Nat) : ∀ (t_at : Int32) (s0 : Int32) (r : (Int32 × Int32)), xf_rf_peek_62 t_size t_text n t_at s0 = some r → xV xm_P l g (36, xm_i36, xm_I36, 0, 0, 62, [], [.int s0], xw_W (xy_a A 58 t_text) L (xy_s (xy_s S 57 18 t_at) 57 1 t_size)) (.inl (some (.int r.1)), xw_W (xy_a A 58 t_text) L (xy_s (xy_s S 57 18 r.2) 57 1 t_size)) := by
  intro t_at s0 r h
  unfold xf_rf_peek_62 at h
  obtain rfl := Option.some.inj h
  refine xe_seg ok 1 (G := (fun _ => some (.inl (some (.int s0)), xw_W (xy_a A 58 t_text) L (xy_s (xy_s S 57 18 t_at) 57 1 t_size)))) (fun K => rfl) ?_
  exact xe_ret
theorem xh_rf_peek_57_38 {l : Launch} {g : xr_G} (ok : xr_OK xm_P) (A : Nat → Nat → Int32) (L : Nat → Nat → Int64) (S : Nat → Nat → Int32) (t_size : Int32) (t_text : (Nat → Int32)) (n : Nat) : ∀ (t_at : Int32) (r : (Int32 × Int32)), xf_rf_peek_38 t_size t_text n t_at = some r → xV xm_P l g (36, xm_i36, xm_I36, 0, 0, 38, [(0, .ref 59)], [], xw_W (xy_a A 58 t_text) L (xy_s (xy_s S 57 18 t_at) 57 1 t_size)) (.inl (some (.int r.1)), xw_W (xy_a A 58 t_text) L (xy_s (xy_s S 57 18 r.2) 57 1 t_size)) := by
  intro t_at r h
  unfold xf_rf_peek_38 at h
  refine xe_seg ok 5 (G := (fun K => if t_at < t_size then K (36, xm_i36, xm_I36, 0, 0, 49, [(0, .ref 59)], [], xw_W (xy_a A 58 t_text) L (xy_s (xy_s S 57 18 t_at) 57 1 t_size)) else K (36, xm_i36, xm_I36, 0, 0, 61, [(0, .ref 59)], [], xw_W (xy_a A 58 t_text) L (xy_s (xy_s S 57 18 t_at) 57 1 t_size)))) (fun K => rfl) ?_
  rcases xb_if h with ⟨hc606, h⟩ | ⟨hc606, h⟩
  · refine xe_pos hc606 (xe_k ?_)
    refine xe_seg ok 5 (G := (fun K => if xr_in t_at 1200 = true then K (36, xm_i36, xm_I36, 0, 0, 58, [(0, .ref 59)], [.int (t_text t_at.toNatClampNeg)], xw_W (xy_a A 58 t_text) L (xy_s (xy_s S 57 18 t_at) 57 1 t_size)) else none)) (fun K => rfl) ?_
    obtain ⟨hg607, h⟩ := xn_if h
    refine xe_pos hg607 (xe_k ?_)
    refine xe_seg ok 1 (G := (fun K => K (36, xm_i36, xm_I36, 0, 0, 62, [(0, .ref 59)], [.int (t_text t_at.toNatClampNeg)], xw_W (xy_a A 58 t_text) L (xy_s (xy_s S 57 18 t_at) 57 1 t_size)))) (fun K => rfl) ?_
    refine xe_k ?_
    refine xe_sub [false] (lv' := []) rfl ?_
    exact xh_rf_peek_57_62 ok A L S t_size t_text n t_at (t_text t_at.toNatClampNeg) _ h
  · refine xe_neg hc606 (xe_k ?_)
    refine xe_seg ok 1 (G := (fun K => K (36, xm_i36, xm_I36, 0, 0, 62, [(0, .ref 59)], [.int ((0 : Int32))], xw_W (xy_a A 58 t_text) L (xy_s (xy_s S 57 18 t_at) 57 1 t_size)))) (fun K => rfl) ?_
    refine xe_k ?_
    refine xe_sub [false] (lv' := []) rfl ?_
    exact xh_rf_peek_57_62 ok A L S t_size t_text n t_at ((0 : Int32)) _ h
theorem xh_rf_peek_57_0 {l : Launch} {g : xr_G} (ok : xr_OK xm_P) (A : Nat → Nat → Int32) (L : Nat → Nat → Int64) (S : Nat → Nat → Int32) (t_size : Int32) (t_text : (Nat → Int32)) (n : Nat) : ∀ (N : Nat) (t_at : Int32) (r : (Int32 × Int32)), xf_rf_peek_0 t_size t_text n N t_at = some r → xV xm_P l g (36, xm_i36, xm_I36, 0, 0, 0, [(0, .ref 59)], [], xw_W (xy_a A 58 t_text) L (xy_s (xy_s S 57 18 t_at) 57 1 t_size)) (.inl (some (.int r.1)), xw_W (xy_a A 58 t_text) L (xy_s (xy_s S 57 18 r.2) 57 1 t_size)) := by
  intro N
  induction N with
  | zero => intro t_at r h; cases h
  | succ N hk0 =>
    intro t_at r h
    refine xe_seg ok 5 (G := (fun K => if t_at < t_size then K (36, xm_i36, xm_I36, 0, 0, 11, [(0, .ref 59)], [], xw_W (xy_a A 58 t_text) L (xy_s (xy_s S 57 18 t_at) 57 1 t_size)) else K (36, xm_i36, xm_I36, 0, 0, 38, [(0, .ref 59)], [], xw_W (xy_a A 58 t_text) L (xy_s (xy_s S 57 18 t_at) 57 1 t_size)))) (fun K => rfl) ?_
    rcases xb_if h with ⟨hc603, h⟩ | ⟨hc603, h⟩
    · refine xe_pos hc603 (xe_k ?_)
      refine xe_seg ok 5 (G := (fun K => if xr_in t_at 1200 = true then K (36, xm_i36, xm_I36, 0, 0, 20, [(0, .ref 59)], [.int (t_text t_at.toNatClampNeg)], xw_W (xy_a A 58 t_text) L (xy_s (xy_s S 57 18 t_at) 57 1 t_size)) else none)) (fun K => rfl) ?_
      obtain ⟨hg604, h⟩ := xn_if h
      refine xe_pos hg604 (xe_k ?_)
      refine xe_seg ok 2 (G := (fun K => if (t_text t_at.toNatClampNeg) = ((32 : Int32)) then K (36, xm_i36, xm_I36, 0, 0, 25, [(0, .ref 59)], [], xw_W (xy_a A 58 t_text) L (xy_s (xy_s S 57 18 t_at) 57 1 t_size)) else K (36, xm_i36, xm_I36, 0, 0, 38, [(0, .ref 59)], [], xw_W (xy_a A 58 t_text) L (xy_s (xy_s S 57 18 t_at) 57 1 t_size)))) (fun K => rfl) ?_
      rcases xb_if h with ⟨hc605, h⟩ | ⟨hc605, h⟩
      · refine xe_pos hc605 (xe_k ?_)
        refine xe_seg ok 7 (G := (fun K => K (36, xm_i36, xm_I36, 0, 0, 0, [(0, .ref 59)], [], xw_W (xy_a A 58 t_text) L (xy_s (xy_s S 57 18 (t_at + ((1 : Int32)))) 57 1 t_size)))) (fun K => rfl) ?_
        refine xe_k ?_
        refine xe_sub [true] (lv' := [(0, .ref 59)]) rfl ?_
        exact hk0 (t_at + ((1 : Int32))) _ h
      · refine xe_neg hc605 (xe_k ?_)
        refine xe_sub [true] (lv' := [(0, .ref 59)]) rfl ?_
        exact xh_rf_peek_57_38 ok A L S t_size t_text n t_at _ h
    · refine xe_neg hc603 (xe_k ?_)
      refine xe_sub [true] (lv' := [(0, .ref 59)]) rfl ?_
      exact xh_rf_peek_57_38 ok A L S t_size t_text n t_at _ h
theorem xh_rf_peek_57 {l : Launch} {g : xr_G} (ok : xr_OK xm_P) (A : Nat → Nat → Int32) (L : Nat → Nat → Int64) (S : Nat → Nat → Int32) (t_size : Int32) (t_text : (Nat → Int32)) (n : Nat) : ∀ (t_at : Int32) (r : (Int32 × Int32)), xf_rf_peek t_size t_text n t_at = some r → xV xm_P l g (36, xm_i36, xm_I36, 0, 0, 0, [(0, .ref 59)], [], xw_W (xy_a A 58 t_text) L (xy_s (xy_s S 57 18 t_at) 57 1 t_size)) (.inl (some (.int r.1)), xw_W (xy_a A 58 t_text) L (xy_s (xy_s S 57 18 r.2) 57 1 t_size)) := by
  intro t_at r h
  unfold xf_rf_peek at h
  refine xe_sub [true] (lv' := [(0, .ref 59)]) rfl ?_
  exact xh_rf_peek_57_0 ok A L S t_size t_text n n t_at _ h
theorem xh_rf_schema_57_111 {l : Launch} {g : xr_G} (ok : xr_OK xm_P) (A : Nat → Nat → Int32) (L : Nat → Nat → Int64) (S : Nat → Nat → Int32) (t_text : (Nat → Int32)) {k73 : Int32 → Int32 → Int32 → (Nat → Int32) → (Nat → Int32) → (Nat → Int32) → (Nat → Int32) → (Nat → Int32) → (Nat → Int32) → Int32 → Int32 → Int32 → Option (Int32 × Int32 × Int32 × Int32 × (Nat → Int32) × (Nat → Int32) × (Nat → Int32) × (Nat → Int32) × (Nat → Int32) × (Nat → Int32) × Int32 × Int32)} (hk73 : ∀ (t_at : Int32) (t_fault : Int32) (t_from : Int32) (t_kindLetters : (Nat → Int32)) (t_kindMay : (Nat → Int32)) (t_kindNames : (Nat → Int32)) (t_kindParts : (Nat → Int32)) (t_kindSorts : (Nat → Int32)) (t_kinds : (Nat → Int32)) (t_size : Int32) (t_thrown : Int32) (v1 : Int32) (r : (Int32 × Int32 × Int32 × Int32 × (Nat → Int32) × (Nat → Int32) × (Nat → Int32) × (Nat → Int32) × (Nat → Int32) × (Nat → Int32) × Int32 × Int32)), k73 t_at t_fault t_from t_kindLetters t_kindMay t_kindNames t_kindParts t_kindSorts t_kinds t_size t_thrown v1 = some r → xV xm_P l g (49, xm_i49, xm_I49, 0, 0, 73, [(0, .ref 59), (1, .int v1)], [], xw_W (xy_a (xy_a (xy_a (xy_a (xy_a (xy_a (xy_a A 61 t_kindLetters) 65 t_kindMay) 62 t_kindNames) 63 t_kindParts) 64 t_kindSorts) 60 t_kinds) 58 t_text) L (xy_s (xy_s (xy_s (xy_s (xy_s S 57 18 t_at) 57 19 t_fault) 57 20 t_from) 57 1 t_size) 57 0 t_thrown)) (.inl (some (.int r.1)), xw_W (xy_a (xy_a (xy_a (xy_a (xy_a (xy_a (xy_a A 61 r.2.2.2.2.1) 65 r.2.2.2.2.2.1) 62 r.2.2.2.2.2.2.1) 63 r.2.2.2.2.2.2.2.1) 64 r.2.2.2.2.2.2.2.2.1) 60 r.2.2.2.2.2.2.2.2.2.1) 58 t_text) L (xy_s (xy_s (xy_s (xy_s (xy_s S 57 18 r.2.1) 57 19 r.2.2.1) 57 20 r.2.2.2.1) 57 1 r.2.2.2.2.2.2.2.2.2.2.1) 57 0 r.2.2.2.2.2.2.2.2.2.2.2))) (n : Nat) : ∀ (N : Nat) (t_at : Int32) (t_fault : Int32) (t_from : Int32) (t_kindLetters : (Nat → Int32)) (t_kindMay : (Nat → Int32)) (t_kindNames : (Nat → Int32)) (t_kindParts : (Nat → Int32)) (t_kindSorts : (Nat → Int32)) (t_kinds : (Nat → Int32)) (t_size : Int32) (t_thrown : Int32) (v1 : Int32) (v2 : Int32) (r : (Int32 × Int32 × Int32 × Int32 × (Nat → Int32) × (Nat → Int32) × (Nat → Int32) × (Nat → Int32) × (Nat → Int32) × (Nat → Int32) × Int32 × Int32)), xf_rf_schema_111 t_text k73 n N t_at t_fault t_from t_kindLetters t_kindMay t_kindNames t_kindParts t_kindSorts t_kinds t_size t_thrown v1 v2 = some r → xV xm_P l g (49, xm_i49, xm_I49, 0, 0, 111, [(0, .ref 59), (1, .int v1), (2, .int v2)], [], xw_W (xy_a (xy_a (xy_a (xy_a (xy_a (xy_a (xy_a A 61 t_kindLetters) 65 t_kindMay) 62 t_kindNames) 63 t_kindParts) 64 t_kindSorts) 60 t_kinds) 58 t_text) L (xy_s (xy_s (xy_s (xy_s (xy_s S 57 18 t_at) 57 19 t_fault) 57 20 t_from) 57 1 t_size) 57 0 t_thrown)) (.inl (some (.int r.1)), xw_W (xy_a (xy_a (xy_a (xy_a (xy_a (xy_a (xy_a A 61 r.2.2.2.2.1) 65 r.2.2.2.2.2.1) 62 r.2.2.2.2.2.2.1) 63 r.2.2.2.2.2.2.2.1) 64 r.2.2.2.2.2.2.2.2.1) 60 r.2.2.2.2.2.2.2.2.2.1) 58 t_text) L (xy_s (xy_s (xy_s (xy_s (xy_s S 57 18 r.2.1) 57 19 r.2.2.1) 57 20 r.2.2.2.1) 57 1 r.2.2.2.2.2.2.2.2.2.2.1) 57 0 r.2.2.2.2.2.2.2.2.2.2.2)) := by
  intro N
  induction N with
  | zero => intro t_at t_fault t_from t_kindLetters t_kindMay t_kindNames t_kindParts t_kindSorts t_kinds t_size t_thrown v1 v2 r h; cases h
  | succ N hk111 =>
    intro t_at t_fault t_from t_kindLetters t_kindMay t_kindNames t_kindParts t_kindSorts t_kinds t_size t_thrown v1 v2 r h
    refine xe_seg ok 3 (G := (fun K => if v2 < ((8 : Int32)) then K (49, xm_i49, xm_I49, 0, 0, 117, [(0, .ref 59), (1, .int v1), (2, .int v2)], [], xw_W (xy_a (xy_a (xy_a (xy_a (xy_a (xy_a (xy_a A 61 t_kindLetters) 65 t_kindMay) 62 t_kindNames) 63 t_kindParts) 64 t_kindSorts) 60 t_kinds) 58 t_text) L (xy_s (xy_s (xy_s (xy_s (xy_s S 57 18 t_at) 57 19 t_fault) 57 20 t_from) 57 1 t_size) 57 0 t_thrown)) else K (49, xm_i49, xm_I49, 0, 0, 198, [(0, .ref 59), (1, .int v1), (2, .int v2)], [], xw_W (xy_a (xy_a (xy_a (xy_a (xy_a (xy_a (xy_a A 61 t_kindLetters) 65 t_kindMay) 62 t_kindNames) 63 t_kindParts) 64 t_kindSorts) 60 t_kinds) 58 t_text) L (xy_s (xy_s (xy_s (xy_s (xy_s S 57 18 t_at) 57 19 t_fault) 57 20 t_from) 57 1 t_size) 57 0 t_thrown)))) (fun K => rfl) ?_
    rcases xb_if h with ⟨hc618, h⟩ | ⟨hc618, h⟩
    · refine xe_pos hc618 (xe_k ?_)
      refine xe_seg ok 17 (G := (fun K => if xr_in ((((8 : Int32)) * (((12 : Int32)) + v1)) + v2) 192 = true then K (49, xm_i49, xm_I49, 0, 0, 141, [(0, .ref 59), (1, .int v1), (2, .int v2)], [.int (t_kindNames ((((8 : Int32)) * (((12 : Int32)) + v1)) + v2).toNatClampNeg), .int ((((8 : Int32)) * v1) + v2), .ref 64], xw_W (xy_a (xy_a (xy_a (xy_a (xy_a (xy_a (xy_a A 61 t_kindLetters) 65 t_kindMay) 62 t_kindNames) 63 t_kindParts) 64 t_kindSorts) 60 t_kinds) 58 t_text) L (xy_s (xy_s (xy_s (xy_s (xy_s S 57 18 t_at) 57 19 t_fault) 57 20 t_from) 57 1 t_size) 57 0 t_thrown)) else none)) (fun K => rfl) ?_
      obtain ⟨hg619, h⟩ := xn_if h
      refine xe_pos hg619 (xe_k ?_)
      refine xe_seg ok 1 (G := (fun K => if xr_in ((((8 : Int32)) * v1) + v2) 192 = true then K (49, xm_i49, xm_I49, 0, 0, 142, [(0, .ref 59), (1, .int v1), (2, .int v2)], [], xw_W (xy_a (xy_a (xy_a (xy_a (xy_a (xy_a (xy_a A 61 t_kindLetters) 65 t_kindMay) 62 (upd t_kindNames ((((8 : Int32)) * v1) + v2).toNatClampNeg ((t_kindNames ((((8 : Int32)) * (((12 : Int32)) + v1)) + v2).toNatClampNeg)))) 63 t_kindParts) 64 t_kindSorts) 60 t_kinds) 58 t_text) L (xy_s (xy_s (xy_s (xy_s (xy_s S 57 18 t_at) 57 19 t_fault) 57 20 t_from) 57 1 t_size) 57 0 t_thrown)) else none)) (fun K => rfl) ?_
      obtain ⟨hg620, h⟩ := xn_if h
      refine xe_pos hg620 (xe_k ?_)
      refine xe_seg ok 17 (G := (fun K => if xr_in ((((8 : Int32)) * (((12 : Int32)) + v1)) + v2) 192 = true then K (49, xm_i49, xm_I49, 0, 0, 166, [(0, .ref 59), (1, .int v1), (2, .int v2)], [.int (t_kindSorts ((((8 : Int32)) * (((12 : Int32)) + v1)) + v2).toNatClampNeg), .int ((((8 : Int32)) * v1) + v2), .ref 66], xw_W (xy_a (xy_a (xy_a (xy_a (xy_a (xy_a (xy_a A 61 t_kindLetters) 65 t_kindMay) 62 (upd t_kindNames ((((8 : Int32)) * v1) + v2).toNatClampNeg ((t_kindNames ((((8 : Int32)) * (((12 : Int32)) + v1)) + v2).toNatClampNeg)))) 63 t_kindParts) 64 t_kindSorts) 60 t_kinds) 58 t_text) L (xy_s (xy_s (xy_s (xy_s (xy_s S 57 18 t_at) 57 19 t_fault) 57 20 t_from) 57 1 t_size) 57 0 t_thrown)) else none)) (fun K => rfl) ?_
      obtain ⟨hg621, h⟩ := xn_if h
      refine xe_pos hg621 (xe_k ?_)
      refine xe_seg ok 1 (G := (fun K => if xr_in ((((8 : Int32)) * v1) + v2) 192 = true then K (49, xm_i49, xm_I49, 0, 0, 167, [(0, .ref 59), (1, .int v1), (2, .int v2)], [], xw_W (xy_a (xy_a (xy_a (xy_a (xy_a (xy_a (xy_a A 61 t_kindLetters) 65 t_kindMay) 62 (upd t_kindNames ((((8 : Int32)) * v1) + v2).toNatClampNeg ((t_kindNames ((((8 : Int32)) * (((12 : Int32)) + v1)) + v2).toNatClampNeg)))) 63 t_kindParts) 64 (upd t_kindSorts ((((8 : Int32)) * v1) + v2).toNatClampNeg ((t_kindSorts ((((8 : Int32)) * (((12 : Int32)) + v1)) + v2).toNatClampNeg)))) 60 t_kinds) 58 t_text) L (xy_s (xy_s (xy_s (xy_s (xy_s S 57 18 t_at) 57 19 t_fault) 57 20 t_from) 57 1 t_size) 57 0 t_thrown)) else none)) (fun K => rfl) ?_
      obtain ⟨hg622, h⟩ := xn_if h
      refine xe_pos hg622 (xe_k ?_)
      refine xe_seg ok 17 (G := (fun K => if xr_in ((((8 : Int32)) * (((12 : Int32)) + v1)) + v2) 192 = true then K (49, xm_i49, xm_I49, 0, 0, 191, [(0, .ref 59), (1, .int v1), (2, .int v2)], [.int (t_kindMay ((((8 : Int32)) * (((12 : Int32)) + v1)) + v2).toNatClampNeg), .int ((((8 : Int32)) * v1) + v2), .ref 67], xw_W (xy_a (xy_a (xy_a (xy_a (xy_a (xy_a (xy_a A 61 t_kindLetters) 65 t_kindMay) 62 (upd t_kindNames ((((8 : Int32)) * v1) + v2).toNatClampNeg ((t_kindNames ((((8 : Int32)) * (((12 : Int32)) + v1)) + v2).toNatClampNeg)))) 63 t_kindParts) 64 (upd t_kindSorts ((((8 : Int32)) * v1) + v2).toNatClampNeg ((t_kindSorts ((((8 : Int32)) * (((12 : Int32)) + v1)) + v2).toNatClampNeg)))) 60 t_kinds) 58 t_text) L (xy_s (xy_s (xy_s (xy_s (xy_s S 57 18 t_at) 57 19 t_fault) 57 20 t_from) 57 1 t_size) 57 0 t_thrown)) else none)) (fun K => rfl) ?_
      obtain ⟨hg623, h⟩ := xn_if h
      refine xe_pos hg623 (xe_k ?_)
      refine xe_seg ok 1 (G := (fun K => if xr_in ((((8 : Int32)) * v1) + v2) 192 = true then K (49, xm_i49, xm_I49, 0, 0, 192, [(0, .ref 59), (1, .int v1), (2, .int v2)], [], xw_W (xy_a (xy_a (xy_a (xy_a (xy_a (xy_a (xy_a A 61 t_kindLetters) 65 (upd t_kindMay ((((8 : Int32)) * v1) + v2).toNatClampNeg (vp_nar .boolean (t_kindMay ((((8 : Int32)) * (((12 : Int32)) + v1)) + v2).toNatClampNeg)))) 62 (upd t_kindNames ((((8 : Int32)) * v1) + v2).toNatClampNeg ((t_kindNames ((((8 : Int32)) * (((12 : Int32)) + v1)) + v2).toNatClampNeg)))) 63 t_kindParts) 64 (upd t_kindSorts ((((8 : Int32)) * v1) + v2).toNatClampNeg ((t_kindSorts ((((8 : Int32)) * (((12 : Int32)) + v1)) + v2).toNatClampNeg)))) 60 t_kinds) 58 t_text) L (xy_s (xy_s (xy_s (xy_s (xy_s S 57 18 t_at) 57 19 t_fault) 57 20 t_from) 57 1 t_size) 57 0 t_thrown)) else none)) (fun K => rfl) ?_
      obtain ⟨hg624, h⟩ := xn_if h
      refine xe_pos hg624 (xe_k ?_)
      refine xe_seg ok 2 (G := (fun K => K (49, xm_i49, xm_I49, 0, 0, 111, [(0, .ref 59), (1, .int v1), (2, .int (v2 + (1 : Int32)))], [], xw_W (xy_a (xy_a (xy_a (xy_a (xy_a (xy_a (xy_a A 61 t_kindLetters) 65 (upd t_kindMay ((((8 : Int32)) * v1) + v2).toNatClampNeg (vp_nar .boolean (t_kindMay ((((8 : Int32)) * (((12 : Int32)) + v1)) + v2).toNatClampNeg)))) 62 (upd t_kindNames ((((8 : Int32)) * v1) + v2).toNatClampNeg ((t_kindNames ((((8 : Int32)) * (((12 : Int32)) + v1)) + v2).toNatClampNeg)))) 63 t_kindParts) 64 (upd t_kindSorts ((((8 : Int32)) * v1) + v2).toNatClampNeg ((t_kindSorts ((((8 : Int32)) * (((12 : Int32)) + v1)) + v2).toNatClampNeg)))) 60 t_kinds) 58 t_text) L (xy_s (xy_s (xy_s (xy_s (xy_s S 57 18 t_at) 57 19 t_fault) 57 20 t_from) 57 1 t_size) 57 0 t_thrown)))) (fun K => rfl) ?_
      refine xe_k ?_
      refine xe_sub [true, true, true] (lv' := [(0, .ref 59), (1, .int v1), (2, .int (v2 + (1 : Int32)))]) rfl ?_
      exact hk111 t_at t_fault t_from t_kindLetters (upd t_kindMay ((((8 : Int32)) * v1) + v2).toNatClampNeg (vp_nar .boolean (t_kindMay ((((8 : Int32)) * (((12 : Int32)) + v1)) + v2).toNatClampNeg))) (upd t_kindNames ((((8 : Int32)) * v1) + v2).toNatClampNeg ((t_kindNames ((((8 : Int32)) * (((12 : Int32)) + v1)) + v2).toNatClampNeg))) t_kindParts (upd t_kindSorts ((((8 : Int32)) * v1) + v2).toNatClampNeg ((t_kindSorts ((((8 : Int32)) * (((12 : Int32)) + v1)) + v2).toNatClampNeg))) t_kinds t_size t_thrown v1 (v2 + (1 : Int32)) _ h
    · refine xe_neg hc618 (xe_k ?_)
      refine xe_seg ok 2 (G := (fun K => K (49, xm_i49, xm_I49, 0, 0, 73, [(0, .ref 59), (1, .int (v1 + (1 : Int32))), (2, .int v2)], [], xw_W (xy_a (xy_a (xy_a (xy_a (xy_a (xy_a (xy_a A 61 t_kindLetters) 65 t_kindMay) 62 t_kindNames) 63 t_kindParts) 64 t_kindSorts) 60 t_kinds) 58 t_text) L (xy_s (xy_s (xy_s (xy_s (xy_s S 57 18 t_at) 57 19 t_fault) 57 20 t_from) 57 1 t_size) 57 0 t_thrown)))) (fun K => rfl) ?_
      refine xe_k ?_
      refine xe_sub [true, true, false] (lv' := [(0, .ref 59), (1, .int (v1 + (1 : Int32)))]) rfl ?_
      exact hk73 t_at t_fault t_from t_kindLetters t_kindMay t_kindNames t_kindParts t_kindSorts t_kinds t_size t_thrown (v1 + (1 : Int32)) _ h
theorem xh_rf_schema_57_73 {l : Launch} {g : xr_G} (ok : xr_OK xm_P) (A : Nat → Nat → Int32) (L : Nat → Nat → Int64) (S : Nat → Nat → Int32) (t_text : (Nat → Int32)) (n : Nat) : ∀ (N : Nat) (t_at : Int32) (t_fault : Int32) (t_from : Int32) (t_kindLetters : (Nat → Int32)) (t_kindMay : (Nat → Int32)) (t_kindNames : (Nat → Int32)) (t_kindParts : (Nat → Int32)) (t_kindSorts : (Nat → Int32)) (t_kinds : (Nat → Int32)) (t_size : Int32) (t_thrown : Int32) (v1 : Int32) (r : (Int32 × Int32 × Int32 × Int32 × (Nat → Int32) × (Nat → Int32) × (Nat → Int32) × (Nat → Int32) × (Nat → Int32) × (Nat → Int32) × Int32 × Int32)), xf_rf_schema_73 t_text n N t_at t_fault t_from t_kindLetters t_kindMay t_kindNames t_kindParts t_kindSorts t_kinds t_size t_thrown v1 = some r → xV xm_P l g (49, xm_i49, xm_I49, 0, 0, 73, [(0, .ref 59), (1, .int v1)], [], xw_W (xy_a (xy_a (xy_a (xy_a (xy_a (xy_a (xy_a A 61 t_kindLetters) 65 t_kindMay) 62 t_kindNames) 63 t_kindParts) 64 t_kindSorts) 60 t_kinds) 58 t_text) L (xy_s (xy_s (xy_s (xy_s (xy_s S 57 18 t_at) 57 19 t_fault) 57 20 t_from) 57 1 t_size) 57 0 t_thrown)) (.inl (some (.int r.1)), xw_W (xy_a (xy_a (xy_a (xy_a (xy_a (xy_a (xy_a A 61 r.2.2.2.2.1) 65 r.2.2.2.2.2.1) 62 r.2.2.2.2.2.2.1) 63 r.2.2.2.2.2.2.2.1) 64 r.2.2.2.2.2.2.2.2.1) 60 r.2.2.2.2.2.2.2.2.2.1) 58 t_text) L (xy_s (xy_s (xy_s (xy_s (xy_s S 57 18 r.2.1) 57 19 r.2.2.1) 57 20 r.2.2.2.1) 57 1 r.2.2.2.2.2.2.2.2.2.2.1) 57 0 r.2.2.2.2.2.2.2.2.2.2.2)) := by
  intro N
  induction N with
  | zero => intro t_at t_fault t_from t_kindLetters t_kindMay t_kindNames t_kindParts t_kindSorts t_kinds t_size t_thrown v1 r h; cases h
  | succ N hk73 =>
    intro t_at t_fault t_from t_kindLetters t_kindMay t_kindNames t_kindParts t_kindSorts t_kinds t_size t_thrown v1 r h
    refine xe_seg ok 3 (G := (fun K => if v1 < ((12 : Int32)) then K (49, xm_i49, xm_I49, 0, 0, 79, [(0, .ref 59), (1, .int v1)], [], xw_W (xy_a (xy_a (xy_a (xy_a (xy_a (xy_a (xy_a A 61 t_kindLetters) 65 t_kindMay) 62 t_kindNames) 63 t_kindParts) 64 t_kindSorts) 60 t_kinds) 58 t_text) L (xy_s (xy_s (xy_s (xy_s (xy_s S 57 18 t_at) 57 19 t_fault) 57 20 t_from) 57 1 t_size) 57 0 t_thrown)) else K (49, xm_i49, xm_I49, 0, 0, 204, [(0, .ref 59), (1, .int v1)], [], xw_W (xy_a (xy_a (xy_a (xy_a (xy_a (xy_a (xy_a A 61 t_kindLetters) 65 t_kindMay) 62 t_kindNames) 63 t_kindParts) 64 t_kindSorts) 60 t_kinds) 58 t_text) L (xy_s (xy_s (xy_s (xy_s (xy_s S 57 18 t_at) 57 19 t_fault) 57 20 t_from) 57 1 t_size) 57 0 t_thrown)))) (fun K => rfl) ?_
    rcases xb_if h with ⟨hc613, h⟩ | ⟨hc613, h⟩
    · refine xe_pos hc613 (xe_k ?_)
      refine xe_seg ok 9 (G := (fun K => if xr_in (((12 : Int32)) + v1) 24 = true then K (49, xm_i49, xm_I49, 0, 0, 93, [(0, .ref 59), (1, .int v1)], [.int (t_kindLetters (((12 : Int32)) + v1).toNatClampNeg), .int v1, .ref 63], xw_W (xy_a (xy_a (xy_a (xy_a (xy_a (xy_a (xy_a A 61 t_kindLetters) 65 t_kindMay) 62 t_kindNames) 63 t_kindParts) 64 t_kindSorts) 60 t_kinds) 58 t_text) L (xy_s (xy_s (xy_s (xy_s (xy_s S 57 18 t_at) 57 19 t_fault) 57 20 t_from) 57 1 t_size) 57 0 t_thrown)) else none)) (fun K => rfl) ?_
      obtain ⟨hg614, h⟩ := xn_if h
      refine xe_pos hg614 (xe_k ?_)
      refine xe_seg ok 1 (G := (fun K => if xr_in v1 24 = true then K (49, xm_i49, xm_I49, 0, 0, 94, [(0, .ref 59), (1, .int v1)], [], xw_W (xy_a (xy_a (xy_a (xy_a (xy_a (xy_a (xy_a A 61 (upd t_kindLetters v1.toNatClampNeg ((t_kindLetters (((12 : Int32)) + v1).toNatClampNeg)))) 65 t_kindMay) 62 t_kindNames) 63 t_kindParts) 64 t_kindSorts) 60 t_kinds) 58 t_text) L (xy_s (xy_s (xy_s (xy_s (xy_s S 57 18 t_at) 57 19 t_fault) 57 20 t_from) 57 1 t_size) 57 0 t_thrown)) else none)) (fun K => rfl) ?_
      obtain ⟨hg615, h⟩ := xn_if h
      refine xe_pos hg615 (xe_k ?_)
      refine xe_seg ok 9 (G := (fun K => if xr_in (((12 : Int32)) + v1) 24 = true then K (49, xm_i49, xm_I49, 0, 0, 108, [(0, .ref 59), (1, .int v1)], [.int (t_kindParts (((12 : Int32)) + v1).toNatClampNeg), .int v1, .ref 65], xw_W (xy_a (xy_a (xy_a (xy_a (xy_a (xy_a (xy_a A 61 (upd t_kindLetters v1.toNatClampNeg ((t_kindLetters (((12 : Int32)) + v1).toNatClampNeg)))) 65 t_kindMay) 62 t_kindNames) 63 t_kindParts) 64 t_kindSorts) 60 t_kinds) 58 t_text) L (xy_s (xy_s (xy_s (xy_s (xy_s S 57 18 t_at) 57 19 t_fault) 57 20 t_from) 57 1 t_size) 57 0 t_thrown)) else none)) (fun K => rfl) ?_
      obtain ⟨hg616, h⟩ := xn_if h
      refine xe_pos hg616 (xe_k ?_)
      refine xe_seg ok 1 (G := (fun K => if xr_in v1 24 = true then K (49, xm_i49, xm_I49, 0, 0, 109, [(0, .ref 59), (1, .int v1)], [], xw_W (xy_a (xy_a (xy_a (xy_a (xy_a (xy_a (xy_a A 61 (upd t_kindLetters v1.toNatClampNeg ((t_kindLetters (((12 : Int32)) + v1).toNatClampNeg)))) 65 t_kindMay) 62 t_kindNames) 63 (upd t_kindParts v1.toNatClampNeg ((t_kindParts (((12 : Int32)) + v1).toNatClampNeg)))) 64 t_kindSorts) 60 t_kinds) 58 t_text) L (xy_s (xy_s (xy_s (xy_s (xy_s S 57 18 t_at) 57 19 t_fault) 57 20 t_from) 57 1 t_size) 57 0 t_thrown)) else none)) (fun K => rfl) ?_
      obtain ⟨hg617, h⟩ := xn_if h
      refine xe_pos hg617 (xe_k ?_)
      refine xe_seg ok 2 (G := (fun K => K (49, xm_i49, xm_I49, 0, 0, 111, [(0, .ref 59), (1, .int v1), (2, .int ((0 : Int32)))], [], xw_W (xy_a (xy_a (xy_a (xy_a (xy_a (xy_a (xy_a A 61 (upd t_kindLetters v1.toNatClampNeg ((t_kindLetters (((12 : Int32)) + v1).toNatClampNeg)))) 65 t_kindMay) 62 t_kindNames) 63 (upd t_kindParts v1.toNatClampNeg ((t_kindParts (((12 : Int32)) + v1).toNatClampNeg)))) 64 t_kindSorts) 60 t_kinds) 58 t_text) L (xy_s (xy_s (xy_s (xy_s (xy_s S 57 18 t_at) 57 19 t_fault) 57 20 t_from) 57 1 t_size) 57 0 t_thrown)))) (fun K => rfl) ?_
      refine xe_k ?_
      refine xe_sub [true, true, true] (lv' := [(0, .ref 59), (1, .int v1), (2, .int ((0 : Int32)))]) rfl ?_
      exact xh_rf_schema_57_111 ok A L S t_text hk73 n n t_at t_fault t_from (upd t_kindLetters v1.toNatClampNeg ((t_kindLetters (((12 : Int32)) + v1).toNatClampNeg))) t_kindMay t_kindNames (upd t_kindParts v1.toNatClampNeg ((t_kindParts (((12 : Int32)) + v1).toNatClampNeg))) t_kindSorts t_kinds t_size t_thrown v1 ((0 : Int32)) _ h
    · refine xe_neg hc613 (xe_k ?_)
      refine xe_seg ok 7 (G := (fun K => if xr_in ((0 : Int32)) 2 = true then K (49, xm_i49, xm_I49, 0, 0, 215, [(0, .ref 59), (1, .int v1)], [.int (t_kinds ((0 : Int32)).toNatClampNeg)], xw_W (xy_a (xy_a (xy_a (xy_a (xy_a (xy_a (xy_a A 61 t_kindLetters) 65 t_kindMay) 62 t_kindNames) 63 t_kindParts) 64 t_kindSorts) 60 t_kinds) 58 t_text) L (xy_s (xy_s (xy_s (xy_s (xy_s S 57 18 t_at) 57 19 t_fault) 57 20 t_from) 57 1 ((0 : Int32))) 57 0 t_thrown)) else none)) (fun K => rfl) ?_
      obtain ⟨hg625, h⟩ := xn_if h
      refine xe_pos hg625 (xe_k ?_)
      obtain rfl := Option.some.inj h
      refine xe_seg ok 1 (G := (fun _ => some (.inl (some (.int (t_kinds ((0 : Int32)).toNatClampNeg))), xw_W (xy_a (xy_a (xy_a (xy_a (xy_a (xy_a (xy_a A 61 t_kindLetters) 65 t_kindMay) 62 t_kindNames) 63 t_kindParts) 64 t_kindSorts) 60 t_kinds) 58 t_text) L (xy_s (xy_s (xy_s (xy_s (xy_s S 57 18 t_at) 57 19 t_fault) 57 20 t_from) 57 1 ((0 : Int32))) 57 0 t_thrown)))) (fun K => rfl) ?_
      exact xe_ret
theorem xh_rf_schema_57_44 {l : Launch} {g : xr_G} (ok : xr_OK xm_P) (A : Nat → Nat → Int32) (L : Nat → Nat → Int64) (S : Nat → Nat → Int32) (t_text : (Nat → Int32)) (n : Nat) : ∀ (t_at : Int32) (t_fault : Int32) (t_from : Int32) (t_kindLetters : (Nat → Int32)) (t_kindMay : (Nat → Int32)) (t_kindNames : (Nat → Int32)) (t_kindParts : (Nat → Int32)) (t_kindSorts : (Nat → Int32)) (t_kinds : (Nat → Int32)) (t_size : Int32) (t_thrown : Int32) (r : (Int32 × Int32 × Int32 × Int32 × (Nat → Int32) × (Nat → Int32) × (Nat → Int32) × (Nat → Int32) × (Nat → Int32) × (Nat → Int32) × Int32 × Int32)), xf_rf_schema_44 t_text n t_at t_fault t_from t_kindLetters t_kindMay t_kindNames t_kindParts t_kindSorts t_kinds t_size t_thrown = some r → xV xm_P l g (49, xm_i49, xm_I49, 0, 0, 44, [(0, .ref 59)], [], xw_W (xy_a (xy_a (xy_a (xy_a (xy_a (xy_a (xy_a A 61 t_kindLetters) 65 t_kindMay) 62 t_kindNames) 63 t_kindParts) 64 t_kindSorts) 60 t_kinds) 58 t_text) L (xy_s (xy_s (xy_s (xy_s (xy_s S 57 18 t_at) 57 19 t_fault) 57 20 t_from) 57 1 t_size) 57 0 t_thrown)) (.inl (some (.int r.1)), xw_W (xy_a (xy_a (xy_a (xy_a (xy_a (xy_a (xy_a A 61 r.2.2.2.2.1) 65 r.2.2.2.2.2.1) 62 r.2.2.2.2.2.2.1) 63 r.2.2.2.2.2.2.2.1) 64 r.2.2.2.2.2.2.2.2.1) 60 r.2.2.2.2.2.2.2.2.2.1) 58 t_text) L (xy_s (xy_s (xy_s (xy_s (xy_s S 57 18 r.2.1) 57 19 r.2.2.1) 57 20 r.2.2.2.1) 57 1 r.2.2.2.2.2.2.2.2.2.2.1) 57 0 r.2.2.2.2.2.2.2.2.2.2.2)) := by
  intro t_at t_fault t_from t_kindLetters t_kindMay t_kindNames t_kindParts t_kindSorts t_kinds t_size t_thrown r h
  unfold xf_rf_schema_44 at h
  refine xe_seg ok 4 (G := (fun K => if t_fault = ((-1 : Int32)) then K (49, xm_i49, xm_I49, 0, 0, 59, [(0, .ref 59)], [], xw_W (xy_a (xy_a (xy_a (xy_a (xy_a (xy_a (xy_a A 61 t_kindLetters) 65 t_kindMay) 62 t_kindNames) 63 t_kindParts) 64 t_kindSorts) 60 t_kinds) 58 t_text) L (xy_s (xy_s (xy_s (xy_s (xy_s S 57 18 t_at) 57 19 t_fault) 57 20 t_from) 57 1 t_size) 57 0 t_thrown)) else K (49, xm_i49, xm_I49, 0, 0, 52, [(0, .ref 59)], [], xw_W (xy_a (xy_a (xy_a (xy_a (xy_a (xy_a (xy_a A 61 t_kindLetters) 65 t_kindMay) 62 t_kindNames) 63 t_kindParts) 64 t_kindSorts) 60 t_kinds) 58 t_text) L (xy_s (xy_s (xy_s (xy_s (xy_s S 57 18 t_at) 57 19 t_fault) 57 20 t_from) 57 1 t_size) 57 0 t_thrown)))) (fun K => rfl) ?_
  rcases xb_if h with ⟨hc610, h⟩ | ⟨hc610, h⟩
  · refine xe_pos hc610 (xe_k ?_)
    refine xe_seg ok 7 (G := (fun K => if xr_in ((1 : Int32)) 2 = true then K (49, xm_i49, xm_I49, 0, 0, 70, [(0, .ref 59)], [.int (t_kinds ((1 : Int32)).toNatClampNeg), .int ((0 : Int32)), .ref 62], xw_W (xy_a (xy_a (xy_a (xy_a (xy_a (xy_a (xy_a A 61 t_kindLetters) 65 t_kindMay) 62 t_kindNames) 63 t_kindParts) 64 t_kindSorts) 60 t_kinds) 58 t_text) L (xy_s (xy_s (xy_s (xy_s (xy_s S 57 18 t_at) 57 19 t_fault) 57 20 t_from) 57 1 t_size) 57 0 t_thrown)) else none)) (fun K => rfl) ?_
    obtain ⟨hg611, h⟩ := xn_if h
    refine xe_pos hg611 (xe_k ?_)
    refine xe_seg ok 1 (G := (fun K => if xr_in ((0 : Int32)) 2 = true then K (49, xm_i49, xm_I49, 0, 0, 71, [(0, .ref 59)], [], xw_W (xy_a (xy_a (xy_a (xy_a (xy_a (xy_a (xy_a A 61 t_kindLetters) 65 t_kindMay) 62 t_kindNames) 63 t_kindParts) 64 t_kindSorts) 60 (upd t_kinds ((0 : Int32)).toNatClampNeg ((t_kinds ((1 : Int32)).toNatClampNeg)))) 58 t_text) L (xy_s (xy_s (xy_s (xy_s (xy_s S 57 18 t_at) 57 19 t_fault) 57 20 t_from) 57 1 t_size) 57 0 t_thrown)) else none)) (fun K => rfl) ?_
    obtain ⟨hg612, h⟩ := xn_if h
    refine xe_pos hg612 (xe_k ?_)
    refine xe_seg ok 2 (G := (fun K => K (49, xm_i49, xm_I49, 0, 0, 73, [(0, .ref 59), (1, .int ((0 : Int32)))], [], xw_W (xy_a (xy_a (xy_a (xy_a (xy_a (xy_a (xy_a A 61 t_kindLetters) 65 t_kindMay) 62 t_kindNames) 63 t_kindParts) 64 t_kindSorts) 60 (upd t_kinds ((0 : Int32)).toNatClampNeg ((t_kinds ((1 : Int32)).toNatClampNeg)))) 58 t_text) L (xy_s (xy_s (xy_s (xy_s (xy_s S 57 18 t_at) 57 19 t_fault) 57 20 t_from) 57 1 t_size) 57 0 t_thrown)))) (fun K => rfl) ?_
    refine xe_k ?_
    refine xe_sub [true, true] (lv' := [(0, .ref 59), (1, .int ((0 : Int32)))]) rfl ?_
    exact xh_rf_schema_57_73 ok A L S t_text n n t_at t_fault t_from t_kindLetters t_kindMay t_kindNames t_kindParts t_kindSorts (upd t_kinds ((0 : Int32)).toNatClampNeg ((t_kinds ((1 : Int32)).toNatClampNeg))) t_size t_thrown ((0 : Int32)) _ h
  · refine xe_neg hc610 (xe_k ?_)
    obtain rfl := Option.some.inj h
    refine xe_seg ok 5 (G := (fun _ => some (.inl (some (.int (((-1 : Int32)) - t_fault))), xw_W (xy_a (xy_a (xy_a (xy_a (xy_a (xy_a (xy_a A 61 t_kindLetters) 65 t_kindMay) 62 t_kindNames) 63 t_kindParts) 64 t_kindSorts) 60 t_kinds) 58 t_text) L (xy_s (xy_s (xy_s (xy_s (xy_s S 57 18 t_at) 57 19 t_fault) 57 20 t_from) 57 1 t_size) 57 0 t_thrown)))) (fun K => rfl) ?_
    exact xe_ret
theorem xh_rf_wrongAt_57_13 {l : Launch} {g : xr_G} (ok : xr_OK xm_P) (A : Nat → Nat → Int32) (L : Nat → Nat → Int64) (S : Nat → Nat → Int32) : ∀ (t_fault : Int32) (r : (Unit × Int32)), xf_rf_wrongAt_13  t_fault = some r → xV xm_P l g (39, xm_i39, xm_I39, 0, 0, 13, [], [], xw_W A L (xy_s S 57 19 t_fault)) (.inl none, xw_W A L (xy_s S 57 19 r.2)) := by
  intro t_fault r h
  unfold xf_rf_wrongAt_13 at h
  obtain rfl := Option.some.inj h
  refine xe_seg ok 1 (G := (fun _ => some (.inl none, xw_W A L (xy_s S 57 19 t_fault)))) (fun K => rfl) ?_
  exact xe_ret
theorem xh_rf_wrongAt_57 {l : Launch} {g : xr_G} (ok : xr_OK xm_P) (A : Nat → Nat → Int32) (L : Nat → Nat → Int64) (S : Nat → Nat → Int32) : ∀ (t_fault : Int32) (a1 : Int32) (r : (Unit × Int32)), xf_rf_wrongAt  t_fault a1 = some r → xV xm_P l g (39, xm_i39, xm_I39, 0, 0, 0, [(0, .ref 59), (1, .int a1)], [], xw_W A L (xy_s S 57 19 t_fault)) (.inl none, xw_W A L (xy_s S 57 19 r.2)) := by
  intro t_fault a1 r h
  unfold xf_rf_wrongAt at h
  refine xe_seg ok 4 (G := (fun K => if t_fault = ((-1 : Int32)) then K (39, xm_i39, xm_I39, 0, 0, 8, [(0, .ref 59), (1, .int a1)], [], xw_W A L (xy_s S 57 19 t_fault)) else K (39, xm_i39, xm_I39, 0, 0, 13, [(0, .ref 59), (1, .int a1)], [], xw_W A L (xy_s S 57 19 t_fault)))) (fun K => rfl) ?_
  rcases xb_if h with ⟨hc629, h⟩ | ⟨hc629, h⟩
  · refine xe_pos hc629 (xe_k ?_)
    refine xe_seg ok 3 (G := (fun K => K (39, xm_i39, xm_I39, 0, 0, 13, [(0, .ref 59), (1, .int a1)], [], xw_W A L (xy_s S 57 19 a1)))) (fun K => rfl) ?_
    refine xe_k ?_
    refine xe_sub [false, false] (lv' := []) rfl ?_
    exact xh_rf_wrongAt_57_13 ok A L S a1 _ h
  · refine xe_neg hc629 (xe_k ?_)
    refine xe_sub [false, false] (lv' := []) rfl ?_
    exact xh_rf_wrongAt_57_13 ok A L S t_fault _ h
theorem xh_rf_isLetter_17 {l : Launch} {g : xr_G} (ok : xr_OK xm_P) (A : Nat → Nat → Int32) (L : Nat → Nat → Int64) (S : Nat → Nat → Int32) : ∀ (s0 : Int32) (r : (Int32)), xf_rf_isLetter_17  s0 = some r → xV xm_P l g (38, xm_i38, xm_I38, 0, 0, 17, [], [.int s0], xw_W A L S) (.inl (some (.int r)), xw_W A L S) := by
  intro s0 r h
  unfold xf_rf_isLetter_17 at h
  refine xe_seg ok 1 (G := (fun _ => if fits .boolean (.int s0) = true then some (.inl (some (.int s0)), xw_W A L S) else none)) (fun K => rfl) ?_
  obtain ⟨hg636, h⟩ := xn_if h
  obtain rfl := Option.some.inj h
  exact xe_pos (A := fun _ => some (.inl (some (.int s0)), xw_W A L S)) (B := fun _ => none) hg636 xe_ret
theorem xh_rf_isLetter_16 {l : Launch} {g : xr_G} (ok : xr_OK xm_P) (A : Nat → Nat → Int32) (L : Nat → Nat → Int64) (S : Nat → Nat → Int32) : ∀  (r : (Int32)), xf_rf_isLetter_16   = some r → xV xm_P l g (38, xm_i38, xm_I38, 0, 0, 16, [], [], xw_W A L S) (.inl (some (.int r)), xw_W A L S) := by
  intro  r h
  unfold xf_rf_isLetter_16 at h
  refine xe_seg ok 1 (G := (fun K => K (38, xm_i38, xm_I38, 0, 0, 17, [], [.int ((0 : Int32))], xw_W A L S))) (fun K => rfl) ?_
  refine xe_k ?_
  refine xe_sub [] (lv' := []) rfl ?_
  exact xh_rf_isLetter_17 ok A L S ((0 : Int32)) _ h
theorem xh_rf_isLetter {l : Launch} {g : xr_G} (ok : xr_OK xm_P) (A : Nat → Nat → Int32) (L : Nat → Nat → Int64) (S : Nat → Nat → Int32) : ∀ (a1 : Int32) (r : (Int32)), xf_rf_isLetter  a1 = some r → xV xm_P l g (38, xm_i38, xm_I38, 0, 0, 0, [(0, .int a1)], [], xw_W A L S) (.inl (some (.int r)), xw_W A L S) := by
  intro a1 r h
  unfold xf_rf_isLetter at h
  refine xe_seg ok 3 (G := (fun K => if a1 < ((65 : Int32)) then K (38, xm_i38, xm_I38, 0, 0, 16, [(0, .int a1)], [], xw_W A L S) else K (38, xm_i38, xm_I38, 0, 0, 6, [(0, .int a1)], [], xw_W A L S))) (fun K => rfl) ?_
  rcases xb_if h with ⟨hc635, h⟩ | ⟨hc635, h⟩
  · refine xe_pos hc635 (xe_k ?_)
    refine xe_sub [false] (lv' := []) rfl ?_
    exact xh_rf_isLetter_16 ok A L S  _ h
  · refine xe_neg hc635 (xe_k ?_)
    refine xe_seg ok 3 (G := (fun K => if ((90 : Int32)) < a1 then K (38, xm_i38, xm_I38, 0, 0, 16, [(0, .int a1)], [], xw_W A L S) else K (38, xm_i38, xm_I38, 0, 0, 12, [(0, .int a1)], [], xw_W A L S))) (fun K => rfl) ?_
    rcases xb_if h with ⟨hc637, h⟩ | ⟨hc637, h⟩
    · refine xe_pos hc637 (xe_k ?_)
      refine xe_sub [false] (lv' := []) rfl ?_
      exact xh_rf_isLetter_16 ok A L S  _ h
    · refine xe_neg hc637 (xe_k ?_)
      refine xe_seg ok 2 (G := (fun K => K (38, xm_i38, xm_I38, 0, 0, 17, [(0, .int a1)], [.int ((1 : Int32))], xw_W A L S))) (fun K => rfl) ?_
      refine xe_k ?_
      refine xe_sub [false] (lv' := []) rfl ?_
      exact xh_rf_isLetter_17 ok A L S ((1 : Int32)) _ h
theorem xh_rf_name_57_62_131 {l : Launch} {g : xr_G} (ok : xr_OK xm_P) (A : Nat → Nat → Int32) (L : Nat → Nat → Int64) (S : Nat → Nat → Int32) (t_size : Int32) (t_text : (Nat → Int32)) (n_p1 : Nat) (n : Nat) : ∀ (p1 : (Nat → Int32)) (t_at : Int32) (t_fault : Int32) (t_from : Int32) (r : (Int32 × (Nat → Int32) × Int32 × Int32 × Int32)), xf_rf_name_131 t_size t_text n_p1 n p1 t_at t_fault t_from = some r → xV xm_P l g (42, xm_i42, xm_I42, 0, 0, 131, [(0, .ref 59)], [], xw_W (xy_a (xy_a A 62 p1) 58 t_text) L (xy_s (xy_s (xy_s (xy_s S 57 18 t_at) 57 19 t_fault) 57 20 t_from) 57 1 t_size)) (.inl (some (.int r.1)), xw_W (xy_a (xy_a A 62 r.2.1) 58 t_text) L (xy_s (xy_s (xy_s (xy_s S 57 18 r.2.2.1) 57 19 r.2.2.2.1) 57 20 r.2.2.2.2) 57 1 t_size)) := by
  intro p1 t_at t_fault t_from r h
  unfold xf_rf_name_131 at h
  obtain rfl := Option.some.inj h
  refine xe_seg ok 6 (G := (fun _ => some (.inl (some (.int (t_at - t_from))), xw_W (xy_a (xy_a A 62 p1) 58 t_text) L (xy_s (xy_s (xy_s (xy_s S 57 18 t_at) 57 19 t_fault) 57 20 t_from) 57 1 t_size)))) (fun K => rfl) ?_
  exact xe_ret
theorem xh_rf_name_57_62_123 {l : Launch} {g : xr_G} (ok : xr_OK xm_P) (A : Nat → Nat → Int32) (L : Nat → Nat → Int64) (S : Nat → Nat → Int32) (t_size : Int32) (t_text : (Nat → Int32)) (n_p1 : Nat) (n : Nat) : ∀ (p1 : (Nat → Int32)) (t_at : Int32) (t_fault : Int32) (t_from : Int32) (r : (Int32 × (Nat → Int32) × Int32 × Int32 × Int32)), xf_rf_name_123 t_size t_text n_p1 n p1 t_at t_fault t_from = some r → xV xm_P l g (42, xm_i42, xm_I42, 0, 0, 123, [(0, .ref 59)], [], xw_W (xy_a (xy_a A 62 p1) 58 t_text) L (xy_s (xy_s (xy_s (xy_s S 57 18 t_at) 57 19 t_fault) 57 20 t_from) 57 1 t_size)) (.inl (some (.int r.1)), xw_W (xy_a (xy_a A 62 r.2.1) 58 t_text) L (xy_s (xy_s (xy_s (xy_s S 57 18 r.2.2.1) 57 19 r.2.2.2.1) 57 20 r.2.2.2.2) 57 1 t_size)) := by
  intro p1 t_at t_fault t_from r h
  unfold xf_rf_name_123 at h
  refine xe_seg ok 4 (G := (fun K => xr_back K 42 xm_i42 xm_I42 0 0 128 [(0, .ref 59)] [] 78 true (K (39, xm_i39, xm_I39, 0, 0, 0, [(0, .ref 59), (1, .int t_from)], [], xw_W (xy_a (xy_a A 62 p1) 58 t_text) L (xy_s (xy_s (xy_s (xy_s S 57 18 t_at) 57 19 t_fault) 57 20 t_from) 57 1 t_size))))) (fun K => rfl) ?_
  obtain ⟨q641, hq641, h⟩ := Option.bind_eq_some_iff.mp h
  have heq641 := xh_rf_wrongAt_57 (l := l) (g := g) ok (xy_a (xy_a A 62 p1) 58 t_text) L (xy_s (xy_s (xy_s (xy_s S 57 18 t_at) 57 19 t_fault) 57 20 t_from) 57 1 t_size) t_fault t_from _ hq641
  refine xe_call0 (ws' := xw_W (xy_a (xy_a A 62 p1) 58 t_text) L (xy_s (xy_s (xy_s (xy_s S 57 18 t_at) 57 19 q641.2) 57 20 t_from) 57 1 t_size)) (by decide) heq641 (Or.inl rfl) ?_
  refine xe_sub [true] (lv' := [(0, .ref 59)]) rfl ?_
  exact xh_rf_name_57_62_131 ok A L S t_size t_text n_p1 n p1 t_at q641.2 t_from _ h
theorem xh_rf_name_57_62_98 {l : Launch} {g : xr_G} (ok : xr_OK xm_P) (A : Nat → Nat → Int32) (L : Nat → Nat → Int64) (S : Nat → Nat → Int32) (t_size : Int32) (t_text : (Nat → Int32)) (n_p1 : Nat) (n : Nat) : ∀ (p1 : (Nat → Int32)) (t_at : Int32) (t_fault : Int32) (t_from : Int32) (r : (Int32 × (Nat → Int32) × Int32 × Int32 × Int32)), xf_rf_name_98 t_size t_text n_p1 n p1 t_at t_fault t_from = some r → xV xm_P l g (42, xm_i42, xm_I42, 0, 0, 98, [(0, .ref 59)], [], xw_W (xy_a (xy_a A 62 p1) 58 t_text) L (xy_s (xy_s (xy_s (xy_s S 57 18 t_at) 57 19 t_fault) 57 20 t_from) 57 1 t_size)) (.inl (some (.int r.1)), xw_W (xy_a (xy_a A 62 r.2.1) 58 t_text) L (xy_s (xy_s (xy_s (xy_s S 57 18 r.2.2.1) 57 19 r.2.2.2.1) 57 20 r.2.2.2.2) 57 1 t_size)) := by
  intro p1 t_at t_fault t_from r h
  unfold xf_rf_name_98 at h
  refine xe_seg ok 5 (G := (fun K => if t_at = t_from then K (42, xm_i42, xm_I42, 0, 0, 123, [(0, .ref 59)], [], xw_W (xy_a (xy_a A 62 p1) 58 t_text) L (xy_s (xy_s (xy_s (xy_s S 57 18 t_at) 57 19 t_fault) 57 20 t_from) 57 1 t_size)) else K (42, xm_i42, xm_I42, 0, 0, 109, [(0, .ref 59)], [], xw_W (xy_a (xy_a A 62 p1) 58 t_text) L (xy_s (xy_s (xy_s (xy_s S 57 18 t_at) 57 19 t_fault) 57 20 t_from) 57 1 t_size)))) (fun K => rfl) ?_
  rcases xb_if h with ⟨hc640, h⟩ | ⟨hc640, h⟩
  · refine xe_pos hc640 (xe_k ?_)
    refine xe_sub [true] (lv' := [(0, .ref 59)]) rfl ?_
    exact xh_rf_name_57_62_123 ok A L S t_size t_text n_p1 n p1 t_at t_fault t_from _ h
  · refine xe_neg hc640 (xe_k ?_)
    refine xe_seg ok 7 (G := (fun K => if ((8 : Int32)) < (t_at - t_from) then K (42, xm_i42, xm_I42, 0, 0, 123, [(0, .ref 59)], [], xw_W (xy_a (xy_a A 62 p1) 58 t_text) L (xy_s (xy_s (xy_s (xy_s S 57 18 t_at) 57 19 t_fault) 57 20 t_from) 57 1 t_size)) else K (42, xm_i42, xm_I42, 0, 0, 131, [(0, .ref 59)], [], xw_W (xy_a (xy_a A 62 p1) 58 t_text) L (xy_s (xy_s (xy_s (xy_s S 57 18 t_at) 57 19 t_fault) 57 20 t_from) 57 1 t_size)))) (fun K => rfl) ?_
    rcases xb_if h with ⟨hc642, h⟩ | ⟨hc642, h⟩
    · refine xe_pos hc642 (xe_k ?_)
      refine xe_sub [true] (lv' := [(0, .ref 59)]) rfl ?_
      exact xh_rf_name_57_62_123 ok A L S t_size t_text n_p1 n p1 t_at t_fault t_from _ h
    · refine xe_neg hc642 (xe_k ?_)
      refine xe_sub [true] (lv' := [(0, .ref 59)]) rfl ?_
      exact xh_rf_name_57_62_131 ok A L S t_size t_text n_p1 n p1 t_at t_fault t_from _ h
theorem xh_rf_name_57_62_85 {l : Launch} {g : xr_G} (ok : xr_OK xm_P) (A : Nat → Nat → Int32) (L : Nat → Nat → Int64) (S : Nat → Nat → Int32) (t_size : Int32) (t_text : (Nat → Int32)) (n_p1 : Nat) {k23 : (Nat → Int32) → Int32 → Int32 → Int32 → Int32 → Option (Int32 × (Nat → Int32) × Int32 × Int32 × Int32)} (hk23 : ∀ (p1 : (Nat → Int32)) (t_at : Int32) (t_fault : Int32) (t_from : Int32) (v2 : Int32) (r : (Int32 × (Nat → Int32) × Int32 × Int32 × Int32)), k23 p1 t_at t_fault t_from v2 = some r → xV xm_P l g (42, xm_i42, xm_I42, 0, 0, 23, [(0, .ref 59), (1, .ref 64), (2, .int v2)], [], xw_W (xy_a (xy_a A 62 p1) 58 t_text) L (xy_s (xy_s (xy_s (xy_s S 57 18 t_at) 57 19 t_fault) 57 20 t_from) 57 1 t_size)) (.inl (some (.int r.1)), xw_W (xy_a (xy_a A 62 r.2.1) 58 t_text) L (xy_s (xy_s (xy_s (xy_s S 57 18 r.2.2.1) 57 19 r.2.2.2.1) 57 20 r.2.2.2.2) 57 1 t_size))) (n : Nat) : ∀ (p1 : (Nat → Int32)) (t_at : Int32) (t_fault : Int32) (t_from : Int32) (v2 : Int32) (r : (Int32 × (Nat → Int32) × Int32 × Int32 × Int32)), xf_rf_name_85 t_size t_text n_p1 k23 n p1 t_at t_fault t_from v2 = some r → xV xm_P l g (42, xm_i42, xm_I42, 0, 0, 85, [(0, .ref 59), (1, .ref 64), (2, .int v2)], [], xw_W (xy_a (xy_a A 62 p1) 58 t_text) L (xy_s (xy_s (xy_s (xy_s S 57 18 t_at) 57 19 t_fault) 57 20 t_from) 57 1 t_size)) (.inl (some (.int r.1)), xw_W (xy_a (xy_a A 62 r.2.1) 58 t_text) L (xy_s (xy_s (xy_s (xy_s S 57 18 r.2.2.1) 57 19 r.2.2.2.1) 57 20 r.2.2.2.2) 57 1 t_size)) := by
  intro p1 t_at t_fault t_from v2 r h
  unfold xf_rf_name_85 at h
  refine xe_seg ok 7 (G := (fun K => K (42, xm_i42, xm_I42, 0, 0, 23, [(0, .ref 59), (1, .ref 64), (2, .int v2)], [], xw_W (xy_a (xy_a A 62 p1) 58 t_text) L (xy_s (xy_s (xy_s (xy_s S 57 18 (t_at + ((1 : Int32)))) 57 19 t_fault) 57 20 t_from) 57 1 t_size)))) (fun K => rfl) ?_
  refine xe_k ?_
  refine xe_sub [true, true, true] (lv' := [(0, .ref 59), (1, .ref 64), (2, .int v2)]) rfl ?_
  exact hk23 p1 (t_at + ((1 : Int32))) t_fault t_from v2 _ h
theorem xh_rf_name_57_62_23 {l : Launch} {g : xr_G} (ok : xr_OK xm_P) (A : Nat → Nat → Int32) (L : Nat → Nat → Int64) (S : Nat → Nat → Int32) (t_size : Int32) (t_text : (Nat → Int32)) (n_p1 : Nat) (n : Nat) : ∀ (N : Nat) (p1 : (Nat → Int32)) (t_at : Int32) (t_fault : Int32) (t_from : Int32) (v2 : Int32) (r : (Int32 × (Nat → Int32) × Int32 × Int32 × Int32)), xf_rf_name_23 t_size t_text n_p1 n N p1 t_at t_fault t_from v2 = some r → xV xm_P l g (42, xm_i42, xm_I42, 0, 0, 23, [(0, .ref 59), (1, .ref 64), (2, .int v2)], [], xw_W (xy_a (xy_a A 62 p1) 58 t_text) L (xy_s (xy_s (xy_s (xy_s S 57 18 t_at) 57 19 t_fault) 57 20 t_from) 57 1 t_size)) (.inl (some (.int r.1)), xw_W (xy_a (xy_a A 62 r.2.1) 58 t_text) L (xy_s (xy_s (xy_s (xy_s S 57 18 r.2.2.1) 57 19 r.2.2.2.1) 57 20 r.2.2.2.2) 57 1 t_size)) := by
  intro N
  induction N with
  | zero => intro p1 t_at t_fault t_from v2 r h; cases h
  | succ N hk23 =>
    intro p1 t_at t_fault t_from v2 r h
    refine xe_seg ok 5 (G := (fun K => if t_at < t_size then K (42, xm_i42, xm_I42, 0, 0, 34, [(0, .ref 59), (1, .ref 64), (2, .int v2)], [], xw_W (xy_a (xy_a A 62 p1) 58 t_text) L (xy_s (xy_s (xy_s (xy_s S 57 18 t_at) 57 19 t_fault) 57 20 t_from) 57 1 t_size)) else K (42, xm_i42, xm_I42, 0, 0, 98, [(0, .ref 59), (1, .ref 64), (2, .int v2)], [], xw_W (xy_a (xy_a A 62 p1) 58 t_text) L (xy_s (xy_s (xy_s (xy_s S 57 18 t_at) 57 19 t_fault) 57 20 t_from) 57 1 t_size)))) (fun K => rfl) ?_
    rcases xb_if h with ⟨hc633, h⟩ | ⟨hc633, h⟩
    · refine xe_pos hc633 (xe_k ?_)
      refine xe_seg ok 5 (G := (fun K => if xr_in t_at 1200 = true then K (42, xm_i42, xm_I42, 0, 0, 43, [(0, .ref 59), (1, .ref 64), (2, .int v2)], [.int (t_text t_at.toNatClampNeg)], xw_W (xy_a (xy_a A 62 p1) 58 t_text) L (xy_s (xy_s (xy_s (xy_s S 57 18 t_at) 57 19 t_fault) 57 20 t_from) 57 1 t_size)) else none)) (fun K => rfl) ?_
      obtain ⟨hg634, h⟩ := xn_if h
      refine xe_pos hg634 (xe_k ?_)
      refine xe_seg ok 1 (G := (fun K => xr_back K 42 xm_i42 xm_I42 0 0 43 [(0, .ref 59), (1, .ref 64), (2, .int v2)] [] 78 true (K (38, xm_i38, xm_I38, 0, 0, 0, [(0, .int (t_text t_at.toNatClampNeg))], [], xw_W (xy_a (xy_a A 62 p1) 58 t_text) L (xy_s (xy_s (xy_s (xy_s S 57 18 t_at) 57 19 t_fault) 57 20 t_from) 57 1 t_size))))) (fun K => rfl) ?_
      obtain ⟨q638, hq638, h⟩ := Option.bind_eq_some_iff.mp h
      have heq638 := xh_rf_isLetter (l := l) (g := g) ok (xy_a (xy_a A 62 p1) 58 t_text) L (xy_s (xy_s (xy_s (xy_s S 57 18 t_at) 57 19 t_fault) 57 20 t_from) 57 1 t_size) (t_text t_at.toNatClampNeg) _ hq638
      refine xe_call1 (ws' := xw_W (xy_a (xy_a A 62 p1) 58 t_text) L (xy_s (xy_s (xy_s (xy_s S 57 18 t_at) 57 19 t_fault) 57 20 t_from) 57 1 t_size)) (by decide) heq638 (Or.inl rfl) ?_
      refine xe_seg ok 1 (G := (fun K => if q638 = (0 : Int32) then K (42, xm_i42, xm_I42, 0, 0, 98, [(0, .ref 59), (1, .ref 64), (2, .int v2)], [], xw_W (xy_a (xy_a A 62 p1) 58 t_text) L (xy_s (xy_s (xy_s (xy_s S 57 18 t_at) 57 19 t_fault) 57 20 t_from) 57 1 t_size)) else K (42, xm_i42, xm_I42, 0, 0, 49, [(0, .ref 59), (1, .ref 64), (2, .int v2)], [], xw_W (xy_a (xy_a A 62 p1) 58 t_text) L (xy_s (xy_s (xy_s (xy_s S 57 18 t_at) 57 19 t_fault) 57 20 t_from) 57 1 t_size)))) (fun K => rfl) ?_
      rcases xb_if h with ⟨hc639, h⟩ | ⟨hc639, h⟩
      · refine xe_pos hc639 (xe_k ?_)
        refine xe_sub [true, false, false] (lv' := [(0, .ref 59)]) rfl ?_
        exact xh_rf_name_57_62_98 ok A L S t_size t_text n_p1 n p1 t_at t_fault t_from _ h
      · refine xe_neg hc639 (xe_k ?_)
        refine xe_seg ok 7 (G := (fun K => if (t_at - t_from) < ((8 : Int32)) then K (42, xm_i42, xm_I42, 0, 0, 63, [(0, .ref 59), (1, .ref 64), (2, .int v2)], [], xw_W (xy_a (xy_a A 62 p1) 58 t_text) L (xy_s (xy_s (xy_s (xy_s S 57 18 t_at) 57 19 t_fault) 57 20 t_from) 57 1 t_size)) else K (42, xm_i42, xm_I42, 0, 0, 85, [(0, .ref 59), (1, .ref 64), (2, .int v2)], [], xw_W (xy_a (xy_a A 62 p1) 58 t_text) L (xy_s (xy_s (xy_s (xy_s S 57 18 t_at) 57 19 t_fault) 57 20 t_from) 57 1 t_size)))) (fun K => rfl) ?_
        rcases xb_if h with ⟨hc643, h⟩ | ⟨hc643, h⟩
        · refine xe_pos hc643 (xe_k ?_)
          refine xe_seg ok 13 (G := (fun K => if xr_in t_at 1200 = true then K (42, xm_i42, xm_I42, 0, 0, 84, [(0, .ref 59), (1, .ref 64), (2, .int v2)], [.int (t_text t_at.toNatClampNeg), .int ((v2 + t_at) - t_from), .ref 64], xw_W (xy_a (xy_a A 62 p1) 58 t_text) L (xy_s (xy_s (xy_s (xy_s S 57 18 t_at) 57 19 t_fault) 57 20 t_from) 57 1 t_size)) else none)) (fun K => rfl) ?_
          obtain ⟨hg644, h⟩ := xn_if h
          refine xe_pos hg644 (xe_k ?_)
          refine xe_seg ok 1 (G := (fun K => if xr_in ((v2 + t_at) - t_from) 192 = true then K (42, xm_i42, xm_I42, 0, 0, 85, [(0, .ref 59), (1, .ref 64), (2, .int v2)], [], xw_W (xy_a (xy_a A 62 (upd p1 ((v2 + t_at) - t_from).toNatClampNeg ((t_text t_at.toNatClampNeg)))) 58 t_text) L (xy_s (xy_s (xy_s (xy_s S 57 18 t_at) 57 19 t_fault) 57 20 t_from) 57 1 t_size)) else none)) (fun K => rfl) ?_
          obtain ⟨hg645, h⟩ := xn_if h
          refine xe_pos hg645 (xe_k ?_)
          refine xe_sub [true, true, true] (lv' := [(0, .ref 59), (1, .ref 64), (2, .int v2)]) rfl ?_
          exact xh_rf_name_57_62_85 ok A L S t_size t_text n_p1 hk23 n (upd p1 ((v2 + t_at) - t_from).toNatClampNeg ((t_text t_at.toNatClampNeg))) t_at t_fault t_from v2 _ h
        · refine xe_neg hc643 (xe_k ?_)
          refine xe_sub [true, true, true] (lv' := [(0, .ref 59), (1, .ref 64), (2, .int v2)]) rfl ?_
          exact xh_rf_name_57_62_85 ok A L S t_size t_text n_p1 hk23 n p1 t_at t_fault t_from v2 _ h
    · refine xe_neg hc633 (xe_k ?_)
      refine xe_sub [true, false, false] (lv' := [(0, .ref 59)]) rfl ?_
      exact xh_rf_name_57_62_98 ok A L S t_size t_text n_p1 n p1 t_at t_fault t_from _ h
theorem xh_rf_name_57_62 {l : Launch} {g : xr_G} (ok : xr_OK xm_P) (A : Nat → Nat → Int32) (L : Nat → Nat → Int64) (S : Nat → Nat → Int32) (t_size : Int32) (t_text : (Nat → Int32)) (n_p1 : Nat) (n : Nat) : ∀ (p1 : (Nat → Int32)) (t_at : Int32) (t_fault : Int32) (t_from : Int32) (a2 : Int32) (r : (Int32 × (Nat → Int32) × Int32 × Int32 × Int32)), xf_rf_name t_size t_text n_p1 n p1 t_at t_fault t_from a2 = some r → xV xm_P l g (42, xm_i42, xm_I42, 0, 0, 0, [(0, .ref 59), (1, .ref 64), (2, .int a2)], [], xw_W (xy_a (xy_a A 62 p1) 58 t_text) L (xy_s (xy_s (xy_s (xy_s S 57 18 t_at) 57 19 t_fault) 57 20 t_from) 57 1 t_size)) (.inl (some (.int r.1)), xw_W (xy_a (xy_a A 62 r.2.1) 58 t_text) L (xy_s (xy_s (xy_s (xy_s S 57 18 r.2.2.1) 57 19 r.2.2.2.1) 57 20 r.2.2.2.2) 57 1 t_size)) := by
  intro p1 t_at t_fault t_from a2 r h
  unfold xf_rf_name at h
  refine xe_seg ok 4 (G := (fun K => if t_fault = ((-1 : Int32)) then K (42, xm_i42, xm_I42, 0, 0, 10, [(0, .ref 59), (1, .ref 64), (2, .int a2)], [], xw_W (xy_a (xy_a A 62 p1) 58 t_text) L (xy_s (xy_s (xy_s (xy_s S 57 18 t_at) 57 19 t_fault) 57 20 t_from) 57 1 t_size)) else K (42, xm_i42, xm_I42, 0, 0, 8, [(0, .ref 59), (1, .ref 64), (2, .int a2)], [], xw_W (xy_a (xy_a A 62 p1) 58 t_text) L (xy_s (xy_s (xy_s (xy_s S 57 18 t_at) 57 19 t_fault) 57 20 t_from) 57 1 t_size)))) (fun K => rfl) ?_
  rcases xb_if h with ⟨hc631, h⟩ | ⟨hc631, h⟩
  · refine xe_pos hc631 (xe_k ?_)
    refine xe_seg ok 2 (G := (fun K => xr_back K 42 xm_i42 xm_I42 0 0 11 [(0, .ref 59), (1, .ref 64), (2, .int a2)] [] 78 true (K (36, xm_i36, xm_I36, 0, 0, 0, [(0, .ref 59)], [], xw_W (xy_a (xy_a A 62 p1) 58 t_text) L (xy_s (xy_s (xy_s (xy_s S 57 18 t_at) 57 19 t_fault) 57 20 t_from) 57 1 t_size))))) (fun K => rfl) ?_
    obtain ⟨q632, hq632, h⟩ := Option.bind_eq_some_iff.mp h
    have heq632 := xh_rf_peek_57 (l := l) (g := g) ok (xy_a (xy_a A 62 p1) 58 t_text) L (xy_s (xy_s (xy_s (xy_s S 57 18 t_at) 57 19 t_fault) 57 20 t_from) 57 1 t_size) t_size t_text n t_at _ hq632
    refine xe_call1 (ws' := xw_W (xy_a (xy_a A 62 p1) 58 t_text) L (xy_s (xy_s (xy_s (xy_s S 57 18 q632.2) 57 19 t_fault) 57 20 t_from) 57 1 t_size)) (by decide) heq632 (Or.inl rfl) ?_
    refine xe_seg ok 5 (G := (fun K => K (42, xm_i42, xm_I42, 0, 0, 23, [(0, .ref 59), (1, .ref 64), (2, .int a2)], [], xw_W (xy_a (xy_a A 62 p1) 58 t_text) L (xy_s (xy_s (xy_s (xy_s S 57 18 q632.2) 57 19 t_fault) 57 20 q632.2) 57 1 t_size)))) (fun K => rfl) ?_
    refine xe_k ?_
    refine xe_sub [true, true, true] (lv' := [(0, .ref 59), (1, .ref 64), (2, .int a2)]) rfl ?_
    exact xh_rf_name_57_62_23 ok A L S t_size t_text n_p1 n n p1 q632.2 t_fault q632.2 a2 _ h
  · refine xe_neg hc631 (xe_k ?_)
    obtain rfl := Option.some.inj h
    refine xe_seg ok 2 (G := (fun _ => some (.inl (some (.int ((0 : Int32)))), xw_W (xy_a (xy_a A 62 p1) 58 t_text) L (xy_s (xy_s (xy_s (xy_s S 57 18 t_at) 57 19 t_fault) 57 20 t_from) 57 1 t_size)))) (fun K => rfl) ?_
    exact xe_ret
theorem xh_rf_isSame_62_62_38 {l : Launch} {g : xr_G} (ok : xr_OK xm_P) (A : Nat → Nat → Int32) (L : Nat → Nat → Int64) (S : Nat → Nat → Int32) (p1 : (Nat → Int32)) (p3 : (Nat → Int32)) (n_p1 : Nat) (n_p3 : Nat) {k6 : Int32 → Int32 → Int32 → Int32 → Int32 → Option (Int32)} (hk6 : ∀ (v1 : Int32) (v3 : Int32) (v4 : Int32) (v5 : Int32) (v6 : Int32) (r : (Int32)), k6 v1 v3 v4 v5 v6 = some r → xV xm_P l g (47, xm_i47, xm_I47, 0, 0, 6, [(0, .ref 64), (1, .int v1), (2, .ref 64), (3, .int v3), (4, .int v4), (5, .int v5), (6, .int v6)], [], xw_W (xy_a (xy_a A 62 p1) 62 p3) L S) (.inl (some (.int r)), xw_W (xy_a (xy_a A 62 p1) 62 p3) L S)) (n : Nat) : ∀ (v1 : Int32) (v3 : Int32) (v4 : Int32) (v6 : Int32) (s0 : Int32) (r : (Int32)), xf_rf_isSame_38 p1 p3 n_p1 n_p3 k6 n v1 v3 v4 v6 s0 = some r → xV xm_P l g (47, xm_i47, xm_I47, 0, 0, 38, [(0, .ref 64), (1, .int v1), (2, .ref 64), (3, .int v3), (4, .int v4), (6, .int v6)], [.int s0], xw_W (xy_a (xy_a A 62 p1) 62 p3) L S) (.inl (some (.int r)), xw_W (xy_a (xy_a A 62 p1) 62 p3) L S) := by
  intro v1 v3 v4 v6 s0 r h
  unfold xf_rf_isSame_38 at h
  refine xe_seg ok 3 (G := (fun K => K (47, xm_i47, xm_I47, 0, 0, 6, [(0, .ref 64), (1, .int v1), (2, .ref 64), (3, .int v3), (4, .int v4), (5, .int s0), (6, .int (v6 + (1 : Int32)))], [], xw_W (xy_a (xy_a A 62 p1) 62 p3) L S))) (fun K => rfl) ?_
  refine xe_k ?_
  refine xe_sub [true, true, true, true, true, true, true] (lv' := [(0, .ref 64), (1, .int v1), (2, .ref 64), (3, .int v3), (4, .int v4), (5, .int s0), (6, .int (v6 + (1 : Int32)))]) rfl ?_
  exact hk6 v1 v3 v4 s0 (v6 + (1 : Int32)) _ h
theorem xh_rf_isSame_62_62_37 {l : Launch} {g : xr_G} (ok : xr_OK xm_P) (A : Nat → Nat → Int32) (L : Nat → Nat → Int64) (S : Nat → Nat → Int32) (p1 : (Nat → Int32)) (p3 : (Nat → Int32)) (n_p1 : Nat) (n_p3 : Nat) {k6 : Int32 → Int32 → Int32 → Int32 → Int32 → Option (Int32)} (hk6 : ∀ (v1 : Int32) (v3 : Int32) (v4 : Int32) (v5 : Int32) (v6 : Int32) (r : (Int32)), k6 v1 v3 v4 v5 v6 = some r → xV xm_P l g (47, xm_i47, xm_I47, 0, 0, 6, [(0, .ref 64), (1, .int v1), (2, .ref 64), (3, .int v3), (4, .int v4), (5, .int v5), (6, .int v6)], [], xw_W (xy_a (xy_a A 62 p1) 62 p3) L S) (.inl (some (.int r)), xw_W (xy_a (xy_a A 62 p1) 62 p3) L S)) (n : Nat) : ∀ (v1 : Int32) (v3 : Int32) (v4 : Int32) (v6 : Int32) (r : (Int32)), xf_rf_isSame_37 p1 p3 n_p1 n_p3 k6 n v1 v3 v4 v6 = some r → xV xm_P l g (47, xm_i47, xm_I47, 0, 0, 37, [(0, .ref 64), (1, .int v1), (2, .ref 64), (3, .int v3), (4, .int v4), (6, .int v6)], [], xw_W (xy_a (xy_a A 62 p1) 62 p3) L S) (.inl (some (.int r)), xw_W (xy_a (xy_a A 62 p1) 62 p3) L S) := by
  intro v1 v3 v4 v6 r h
  unfold xf_rf_isSame_37 at h
  refine xe_seg ok 1 (G := (fun K => K (47, xm_i47, xm_I47, 0, 0, 38, [(0, .ref 64), (1, .int v1), (2, .ref 64), (3, .int v3), (4, .int v4), (6, .int v6)], [.int ((0 : Int32))], xw_W (xy_a (xy_a A 62 p1) 62 p3) L S))) (fun K => rfl) ?_
  refine xe_k ?_
  refine xe_sub [true, true, true, true, true, true] (lv' := [(0, .ref 64), (1, .int v1), (2, .ref 64), (3, .int v3), (4, .int v4), (6, .int v6)]) rfl ?_
  exact xh_rf_isSame_62_62_38 ok A L S p1 p3 n_p1 n_p3 hk6 n v1 v3 v4 v6 ((0 : Int32)) _ h
theorem xh_rf_isSame_62_62_6 {l : Launch} {g : xr_G} (ok : xr_OK xm_P) (A : Nat → Nat → Int32) (L : Nat → Nat → Int64) (S : Nat → Nat → Int32) (p1 : (Nat → Int32)) (p3 : (Nat → Int32)) (n_p1 : Nat) (n_p3 : Nat) (n : Nat) : ∀ (N : Nat) (v1 : Int32) (v3 : Int32) (v4 : Int32) (v5 : Int32) (v6 : Int32) (r : (Int32)), xf_rf_isSame_6 p1 p3 n_p1 n_p3 n N v1 v3 v4 v5 v6 = some r → xV xm_P l g (47, xm_i47, xm_I47, 0, 0, 6, [(0, .ref 64), (1, .int v1), (2, .ref 64), (3, .int v3), (4, .int v4), (5, .int v5), (6, .int v6)], [], xw_W (xy_a (xy_a A 62 p1) 62 p3) L S) (.inl (some (.int r)), xw_W (xy_a (xy_a A 62 p1) 62 p3) L S) := by
  intro N
  induction N with
  | zero => intro v1 v3 v4 v5 v6 r h; cases h
  | succ N hk6 =>
    intro v1 v3 v4 v5 v6 r h
    refine xe_seg ok 3 (G := (fun K => if v6 < v4 then K (47, xm_i47, xm_I47, 0, 0, 13, [(0, .ref 64), (1, .int v1), (2, .ref 64), (3, .int v3), (4, .int v4), (5, .int v5), (6, .int v6)], [], xw_W (xy_a (xy_a A 62 p1) 62 p3) L S) else K (47, xm_i47, xm_I47, 0, 0, 46, [(0, .ref 64), (1, .int v1), (2, .ref 64), (3, .int v3), (4, .int v4), (5, .int v5), (6, .int v6)], [], xw_W (xy_a (xy_a A 62 p1) 62 p3) L S))) (fun K => rfl) ?_
    rcases xb_if h with ⟨hc653, h⟩ | ⟨hc653, h⟩
    · refine xe_pos hc653 (xe_k ?_)
      refine xe_seg ok 2 (G := (fun K => if v5 = (0 : Int32) then K (47, xm_i47, xm_I47, 0, 0, 37, [(0, .ref 64), (1, .int v1), (2, .ref 64), (3, .int v3), (4, .int v4), (5, .int v5), (6, .int v6)], [], xw_W (xy_a (xy_a A 62 p1) 62 p3) L S) else K (47, xm_i47, xm_I47, 0, 0, 18, [(0, .ref 64), (1, .int v1), (2, .ref 64), (3, .int v3), (4, .int v4), (5, .int v5), (6, .int v6)], [], xw_W (xy_a (xy_a A 62 p1) 62 p3) L S))) (fun K => rfl) ?_
      rcases xb_if h with ⟨hc654, h⟩ | ⟨hc654, h⟩
      · refine xe_pos hc654 (xe_k ?_)
        refine xe_sub [true, true, true, true, true, false, true] (lv' := [(0, .ref 64), (1, .int v1), (2, .ref 64), (3, .int v3), (4, .int v4), (6, .int v6)]) rfl ?_
        exact xh_rf_isSame_62_62_37 ok A L S p1 p3 n_p1 n_p3 hk6 n v1 v3 v4 v6 _ h
      · refine xe_neg hc654 (xe_k ?_)
        refine xe_seg ok 5 (G := (fun K => if xr_in (v1 + v6) 192 = true then K (47, xm_i47, xm_I47, 0, 0, 24, [(0, .ref 64), (1, .int v1), (2, .ref 64), (3, .int v3), (4, .int v4), (5, .int v5), (6, .int v6)], [.int (p1 (v1 + v6).toNatClampNeg)], xw_W (xy_a (xy_a A 62 p1) 62 p3) L S) else none)) (fun K => rfl) ?_
        obtain ⟨hg655, h⟩ := xn_if h
        refine xe_pos hg655 (xe_k ?_)
        refine xe_seg ok 5 (G := (fun K => if xr_in (v3 + v6) 192 = true then K (47, xm_i47, xm_I47, 0, 0, 30, [(0, .ref 64), (1, .int v1), (2, .ref 64), (3, .int v3), (4, .int v4), (5, .int v5), (6, .int v6)], [.int (p3 (v3 + v6).toNatClampNeg), .int (p1 (v1 + v6).toNatClampNeg)], xw_W (xy_a (xy_a A 62 p1) 62 p3) L S) else none)) (fun K => rfl) ?_
        obtain ⟨hg656, h⟩ := xn_if h
        refine xe_pos hg656 (xe_k ?_)
        refine xe_seg ok 1 (G := (fun K => if (p1 (v1 + v6).toNatClampNeg) = (p3 (v3 + v6).toNatClampNeg) then K (47, xm_i47, xm_I47, 0, 0, 33, [(0, .ref 64), (1, .int v1), (2, .ref 64), (3, .int v3), (4, .int v4), (5, .int v5), (6, .int v6)], [], xw_W (xy_a (xy_a A 62 p1) 62 p3) L S) else K (47, xm_i47, xm_I47, 0, 0, 37, [(0, .ref 64), (1, .int v1), (2, .ref 64), (3, .int v3), (4, .int v4), (5, .int v5), (6, .int v6)], [], xw_W (xy_a (xy_a A 62 p1) 62 p3) L S))) (fun K => rfl) ?_
        rcases xb_if h with ⟨hc657, h⟩ | ⟨hc657, h⟩
        · refine xe_pos hc657 (xe_k ?_)
          refine xe_seg ok 2 (G := (fun K => K (47, xm_i47, xm_I47, 0, 0, 38, [(0, .ref 64), (1, .int v1), (2, .ref 64), (3, .int v3), (4, .int v4), (5, .int v5), (6, .int v6)], [.int ((1 : Int32))], xw_W (xy_a (xy_a A 62 p1) 62 p3) L S))) (fun K => rfl) ?_
          refine xe_k ?_
          refine xe_sub [true, true, true, true, true, false, true] (lv' := [(0, .ref 64), (1, .int v1), (2, .ref 64), (3, .int v3), (4, .int v4), (6, .int v6)]) rfl ?_
          exact xh_rf_isSame_62_62_38 ok A L S p1 p3 n_p1 n_p3 hk6 n v1 v3 v4 v6 ((1 : Int32)) _ h
        · refine xe_neg hc657 (xe_k ?_)
          refine xe_sub [true, true, true, true, true, false, true] (lv' := [(0, .ref 64), (1, .int v1), (2, .ref 64), (3, .int v3), (4, .int v4), (6, .int v6)]) rfl ?_
          exact xh_rf_isSame_62_62_37 ok A L S p1 p3 n_p1 n_p3 hk6 n v1 v3 v4 v6 _ h
    · refine xe_neg hc653 (xe_k ?_)
      refine xe_seg ok 2 (G := (fun _ => if fits .boolean (.int v5) = true then some (.inl (some (.int v5)), xw_W (xy_a (xy_a A 62 p1) 62 p3) L S) else none)) (fun K => rfl) ?_
      obtain ⟨hg658, h⟩ := xn_if h
      obtain rfl := Option.some.inj h
      exact xe_pos (A := fun _ => some (.inl (some (.int v5)), xw_W (xy_a (xy_a A 62 p1) 62 p3) L S)) (B := fun _ => none) hg658 xe_ret
theorem xh_rf_isSame_62_62 {l : Launch} {g : xr_G} (ok : xr_OK xm_P) (A : Nat → Nat → Int32) (L : Nat → Nat → Int64) (S : Nat → Nat → Int32) (p1 : (Nat → Int32)) (p3 : (Nat → Int32)) (n_p1 : Nat) (n_p3 : Nat) (n : Nat) : ∀ (a2 : Int32) (a4 : Int32) (a5 : Int32) (r : (Int32)), xf_rf_isSame p1 p3 n_p1 n_p3 n a2 a4 a5 = some r → xV xm_P l g (47, xm_i47, xm_I47, 0, 0, 0, [(0, .ref 64), (1, .int a2), (2, .ref 64), (3, .int a4), (4, .int a5)], [], xw_W (xy_a (xy_a A 62 p1) 62 p3) L S) (.inl (some (.int r)), xw_W (xy_a (xy_a A 62 p1) 62 p3) L S) := by
  intro a2 a4 a5 r h
  unfold xf_rf_isSame at h
  refine xe_seg ok 4 (G := (fun K => K (47, xm_i47, xm_I47, 0, 0, 6, [(0, .ref 64), (1, .int a2), (2, .ref 64), (3, .int a4), (4, .int a5), (5, .int ((1 : Int32))), (6, .int ((0 : Int32)))], [], xw_W (xy_a (xy_a A 62 p1) 62 p3) L S))) (fun K => rfl) ?_
  refine xe_k ?_
  refine xe_sub [true, true, true, true, true, true, true] (lv' := [(0, .ref 64), (1, .int a2), (2, .ref 64), (3, .int a4), (4, .int a5), (5, .int ((1 : Int32))), (6, .int ((0 : Int32)))]) rfl ?_
  exact xh_rf_isSame_62_62_6 ok A L S p1 p3 n_p1 n_p3 n n a2 a4 a5 ((1 : Int32)) ((0 : Int32)) _ h
theorem xh_rf_kind_57_107 {l : Launch} {g : xr_G} (ok : xr_OK xm_P) (A : Nat → Nat → Int32) (L : Nat → Nat → Int64) (S : Nat → Nat → Int32) (t_size : Int32) (t_text : (Nat → Int32)) {k51 : Int32 → Int32 → Int32 → (Nat → Int32) → (Nat → Int32) → (Nat → Int32) → (Nat → Int32) → (Nat → Int32) → (Nat → Int32) → Int32 → Int32 → Option (Unit × Int32 × Int32 × Int32 × (Nat → Int32) × (Nat → Int32) × (Nat → Int32) × (Nat → Int32) × (Nat → Int32) × (Nat → Int32))} (hk51 : ∀ (t_at : Int32) (t_fault : Int32) (t_from : Int32) (t_kindLetters : (Nat → Int32)) (t_kindMay : (Nat → Int32)) (t_kindNames : (Nat → Int32)) (t_kindParts : (Nat → Int32)) (t_kindSorts : (Nat → Int32)) (t_kinds : (Nat → Int32)) (v1 : Int32) (v2 : Int32) (r : (Unit × Int32 × Int32 × Int32 × (Nat → Int32) × (Nat → Int32) × (Nat → Int32) × (Nat → Int32) × (Nat → Int32) × (Nat → Int32))), k51 t_at t_fault t_from t_kindLetters t_kindMay t_kindNames t_kindParts t_kindSorts t_kinds v1 v2 = some r → xV xm_P l g (48, xm_i48, xm_I48, 0, 0, 51, [(0, .ref 59), (1, .int v1), (2, .int v2)], [], xw_W (xy_a (xy_a (xy_a (xy_a (xy_a (xy_a (xy_a A 61 t_kindLetters) 65 t_kindMay) 62 t_kindNames) 63 t_kindParts) 64 t_kindSorts) 60 t_kinds) 58 t_text) L (xy_s (xy_s (xy_s (xy_s S 57 18 t_at) 57 19 t_fault) 57 20 t_from) 57 1 t_size)) (.inl none, xw_W (xy_a (xy_a (xy_a (xy_a (xy_a (xy_a (xy_a A 61 r.2.2.2.2.1) 65 r.2.2.2.2.2.1) 62 r.2.2.2.2.2.2.1) 63 r.2.2.2.2.2.2.2.1) 64 r.2.2.2.2.2.2.2.2.1) 60 r.2.2.2.2.2.2.2.2.2) 58 t_text) L (xy_s (xy_s (xy_s (xy_s S 57 18 r.2.1) 57 19 r.2.2.1) 57 20 r.2.2.2.1) 57 1 t_size))) (n : Nat) : ∀ (t_at : Int32) (t_fault : Int32) (t_from : Int32) (t_kindLetters : (Nat → Int32)) (t_kindMay : (Nat → Int32)) (t_kindNames : (Nat → Int32)) (t_kindParts : (Nat → Int32)) (t_kindSorts : (Nat → Int32)) (t_kinds : (Nat → Int32)) (v1 : Int32) (v2 : Int32) (r : (Unit × Int32 × Int32 × Int32 × (Nat → Int32) × (Nat → Int32) × (Nat → Int32) × (Nat → Int32) × (Nat → Int32) × (Nat → Int32))), xf_rf_kind_107 t_size t_text k51 n t_at t_fault t_from t_kindLetters t_kindMay t_kindNames t_kindParts t_kindSorts t_kinds v1 v2 = some r → xV xm_P l g (48, xm_i48, xm_I48, 0, 0, 107, [(0, .ref 59), (1, .int v1), (2, .int v2)], [], xw_W (xy_a (xy_a (xy_a (xy_a (xy_a (xy_a (xy_a A 61 t_kindLetters) 65 t_kindMay) 62 t_kindNames) 63 t_kindParts) 64 t_kindSorts) 60 t_kinds) 58 t_text) L (xy_s (xy_s (xy_s (xy_s S 57 18 t_at) 57 19 t_fault) 57 20 t_from) 57 1 t_size)) (.inl none, xw_W (xy_a (xy_a (xy_a (xy_a (xy_a (xy_a (xy_a A 61 r.2.2.2.2.1) 65 r.2.2.2.2.2.1) 62 r.2.2.2.2.2.2.1) 63 r.2.2.2.2.2.2.2.1) 64 r.2.2.2.2.2.2.2.2.1) 60 r.2.2.2.2.2.2.2.2.2) 58 t_text) L (xy_s (xy_s (xy_s (xy_s S 57 18 r.2.1) 57 19 r.2.2.1) 57 20 r.2.2.2.1) 57 1 t_size)) := by
  intro t_at t_fault t_from t_kindLetters t_kindMay t_kindNames t_kindParts t_kindSorts t_kinds v1 v2 r h
  unfold xf_rf_kind_107 at h
  refine xe_seg ok 2 (G := (fun K => K (48, xm_i48, xm_I48, 0, 0, 51, [(0, .ref 59), (1, .int v1), (2, .int (v2 + (1 : Int32)))], [], xw_W (xy_a (xy_a (xy_a (xy_a (xy_a (xy_a (xy_a A 61 t_kindLetters) 65 t_kindMay) 62 t_kindNames) 63 t_kindParts) 64 t_kindSorts) 60 t_kinds) 58 t_text) L (xy_s (xy_s (xy_s (xy_s S 57 18 t_at) 57 19 t_fault) 57 20 t_from) 57 1 t_size)))) (fun K => rfl) ?_
  refine xe_k ?_
  refine xe_sub [true, true, true] (lv' := [(0, .ref 59), (1, .int v1), (2, .int (v2 + (1 : Int32)))]) rfl ?_
  exact hk51 t_at t_fault t_from t_kindLetters t_kindMay t_kindNames t_kindParts t_kindSorts t_kinds v1 (v2 + (1 : Int32)) _ h
theorem xh_rf_sign_57_38 {l : Launch} {g : xr_G} (ok : xr_OK xm_P) (A : Nat → Nat → Int32) (L : Nat → Nat → Int64) (S : Nat → Nat → Int32) (t_size : Int32) (t_text : (Nat → Int32)) (n : Nat) : ∀ (t_at : Int32) (t_fault : Int32) (r : (Unit × Int32 × Int32)), xf_rf_sign_38 t_size t_text n t_at t_fault = some r → xV xm_P l g (40, xm_i40, xm_I40, 0, 0, 38, [], [], xw_W (xy_a A 58 t_text) L (xy_s (xy_s (xy_s S 57 18 t_at) 57 19 t_fault) 57 1 t_size)) (.inl none, xw_W (xy_a A 58 t_text) L (xy_s (xy_s (xy_s S 57 18 r.2.1) 57 19 r.2.2) 57 1 t_size)) := by
  intro t_at t_fault r h
  unfold xf_rf_sign_38 at h
  obtain rfl := Option.some.inj h
  refine xe_seg ok 1 (G := (fun _ => some (.inl none, xw_W (xy_a A 58 t_text) L (xy_s (xy_s (xy_s S 57 18 t_at) 57 19 t_fault) 57 1 t_size)))) (fun K => rfl) ?_
  exact xe_ret
theorem xh_rf_sign_57 {l : Launch} {g : xr_G} (ok : xr_OK xm_P) (A : Nat → Nat → Int32) (L : Nat → Nat → Int64) (S : Nat → Nat → Int32) (t_size : Int32) (t_text : (Nat → Int32)) (n : Nat) : ∀ (t_at : Int32) (t_fault : Int32) (a1 : Int32) (r : (Unit × Int32 × Int32)), xf_rf_sign t_size t_text n t_at t_fault a1 = some r → xV xm_P l g (40, xm_i40, xm_I40, 0, 0, 0, [(0, .ref 59), (1, .int a1)], [], xw_W (xy_a A 58 t_text) L (xy_s (xy_s (xy_s S 57 18 t_at) 57 19 t_fault) 57 1 t_size)) (.inl none, xw_W (xy_a A 58 t_text) L (xy_s (xy_s (xy_s S 57 18 r.2.1) 57 19 r.2.2) 57 1 t_size)) := by
  intro t_at t_fault a1 r h
  unfold xf_rf_sign at h
  refine xe_seg ok 4 (G := (fun K => if t_fault = ((-1 : Int32)) then K (40, xm_i40, xm_I40, 0, 0, 9, [(0, .ref 59), (1, .int a1)], [], xw_W (xy_a A 58 t_text) L (xy_s (xy_s (xy_s S 57 18 t_at) 57 19 t_fault) 57 1 t_size)) else K (40, xm_i40, xm_I40, 0, 0, 8, [(0, .ref 59), (1, .int a1)], [], xw_W (xy_a A 58 t_text) L (xy_s (xy_s (xy_s S 57 18 t_at) 57 19 t_fault) 57 1 t_size)))) (fun K => rfl) ?_
  rcases xb_if h with ⟨hc662, h⟩ | ⟨hc662, h⟩
  · refine xe_pos hc662 (xe_k ?_)
    refine xe_seg ok 2 (G := (fun K => xr_back K 40 xm_i40 xm_I40 0 0 10 [(0, .ref 59), (1, .int a1)] [] 78 true (K (36, xm_i36, xm_I36, 0, 0, 0, [(0, .ref 59)], [], xw_W (xy_a A 58 t_text) L (xy_s (xy_s (xy_s S 57 18 t_at) 57 19 t_fault) 57 1 t_size))))) (fun K => rfl) ?_
    obtain ⟨q663, hq663, h⟩ := Option.bind_eq_some_iff.mp h
    have heq663 := xh_rf_peek_57 (l := l) (g := g) ok (xy_a A 58 t_text) L (xy_s (xy_s (xy_s S 57 18 t_at) 57 19 t_fault) 57 1 t_size) t_size t_text n t_at _ hq663
    refine xe_call1 (ws' := xw_W (xy_a A 58 t_text) L (xy_s (xy_s (xy_s S 57 18 q663.2) 57 19 t_fault) 57 1 t_size)) (by decide) heq663 (Or.inl rfl) ?_
    refine xe_seg ok 2 (G := (fun K => if q663.1 = a1 then K (40, xm_i40, xm_I40, 0, 0, 17, [(0, .ref 59), (1, .int a1)], [], xw_W (xy_a A 58 t_text) L (xy_s (xy_s (xy_s S 57 18 q663.2) 57 19 t_fault) 57 1 t_size)) else K (40, xm_i40, xm_I40, 0, 0, 30, [(0, .ref 59), (1, .int a1)], [], xw_W (xy_a A 58 t_text) L (xy_s (xy_s (xy_s S 57 18 q663.2) 57 19 t_fault) 57 1 t_size)))) (fun K => rfl) ?_
    rcases xb_if h with ⟨hc664, h⟩ | ⟨hc664, h⟩
    · refine xe_pos hc664 (xe_k ?_)
      refine xe_seg ok 7 (G := (fun K => K (40, xm_i40, xm_I40, 0, 0, 38, [(0, .ref 59), (1, .int a1)], [], xw_W (xy_a A 58 t_text) L (xy_s (xy_s (xy_s S 57 18 (q663.2 + ((1 : Int32)))) 57 19 t_fault) 57 1 t_size)))) (fun K => rfl) ?_
      refine xe_k ?_
      refine xe_sub [false, false] (lv' := []) rfl ?_
      exact xh_rf_sign_57_38 ok A L S t_size t_text n (q663.2 + ((1 : Int32))) t_fault _ h
    · refine xe_neg hc664 (xe_k ?_)
      refine xe_seg ok 4 (G := (fun K => xr_back K 40 xm_i40 xm_I40 0 0 35 [(0, .ref 59), (1, .int a1)] [] 78 true (K (39, xm_i39, xm_I39, 0, 0, 0, [(0, .ref 59), (1, .int q663.2)], [], xw_W (xy_a A 58 t_text) L (xy_s (xy_s (xy_s S 57 18 q663.2) 57 19 t_fault) 57 1 t_size))))) (fun K => rfl) ?_
      obtain ⟨q665, hq665, h⟩ := Option.bind_eq_some_iff.mp h
      have heq665 := xh_rf_wrongAt_57 (l := l) (g := g) ok (xy_a A 58 t_text) L (xy_s (xy_s (xy_s S 57 18 q663.2) 57 19 t_fault) 57 1 t_size) t_fault q663.2 _ hq665
      refine xe_call0 (ws' := xw_W (xy_a A 58 t_text) L (xy_s (xy_s (xy_s S 57 18 q663.2) 57 19 q665.2) 57 1 t_size)) (by decide) heq665 (Or.inl rfl) ?_
      refine xe_sub [false, false] (lv' := []) rfl ?_
      exact xh_rf_sign_57_38 ok A L S t_size t_text n q663.2 q665.2 _ h
  · refine xe_neg hc662 (xe_k ?_)
    obtain rfl := Option.some.inj h
    refine xe_seg ok 1 (G := (fun _ => some (.inl none, xw_W (xy_a A 58 t_text) L (xy_s (xy_s (xy_s S 57 18 t_at) 57 19 t_fault) 57 1 t_size)))) (fun K => rfl) ?_
    exact xe_ret
theorem xh_rf_kind_57_265 {l : Launch} {g : xr_G} (ok : xr_OK xm_P) (A : Nat → Nat → Int32) (L : Nat → Nat → Int64) (S : Nat → Nat → Int32) (t_size : Int32) (t_text : (Nat → Int32)) (n : Nat) : ∀ (t_at : Int32) (t_fault : Int32) (t_from : Int32) (t_kindLetters : (Nat → Int32)) (t_kindMay : (Nat → Int32)) (t_kindNames : (Nat → Int32)) (t_kindParts : (Nat → Int32)) (t_kindSorts : (Nat → Int32)) (t_kinds : (Nat → Int32)) (v1 : Int32) (v2 : Int32) (r : (Unit × Int32 × Int32 × Int32 × (Nat → Int32) × (Nat → Int32) × (Nat → Int32) × (Nat → Int32) × (Nat → Int32) × (Nat → Int32))), xf_rf_kind_265 t_size t_text n t_at t_fault t_from t_kindLetters t_kindMay t_kindNames t_kindParts t_kindSorts t_kinds v1 v2 = some r → xV xm_P l g (48, xm_i48, xm_I48, 0, 0, 265, [(0, .ref 59), (1, .int v1), (2, .int v2)], [], xw_W (xy_a (xy_a (xy_a (xy_a (xy_a (xy_a (xy_a A 61 t_kindLetters) 65 t_kindMay) 62 t_kindNames) 63 t_kindParts) 64 t_kindSorts) 60 t_kinds) 58 t_text) L (xy_s (xy_s (xy_s (xy_s S 57 18 t_at) 57 19 t_fault) 57 20 t_from) 57 1 t_size)) (.inl none, xw_W (xy_a (xy_a (xy_a (xy_a (xy_a (xy_a (xy_a A 61 r.2.2.2.2.1) 65 r.2.2.2.2.2.1) 62 r.2.2.2.2.2.2.1) 63 r.2.2.2.2.2.2.2.1) 64 r.2.2.2.2.2.2.2.2.1) 60 r.2.2.2.2.2.2.2.2.2) 58 t_text) L (xy_s (xy_s (xy_s (xy_s S 57 18 r.2.1) 57 19 r.2.2.1) 57 20 r.2.2.2.1) 57 1 t_size)) := by
  intro t_at t_fault t_from t_kindLetters t_kindMay t_kindNames t_kindParts t_kindSorts t_kinds v1 v2 r h
  unfold xf_rf_kind_265 at h
  refine xe_seg ok 5 (G := (fun K => if xr_in v1 24 = true then K (48, xm_i48, xm_I48, 0, 0, 272, [(0, .ref 59), (1, .int v1), (2, .int v2)], [], xw_W (xy_a (xy_a (xy_a (xy_a (xy_a (xy_a (xy_a A 61 t_kindLetters) 65 t_kindMay) 62 t_kindNames) 63 (upd t_kindParts v1.toNatClampNeg v2)) 64 t_kindSorts) 60 t_kinds) 58 t_text) L (xy_s (xy_s (xy_s (xy_s S 57 18 t_at) 57 19 t_fault) 57 20 t_from) 57 1 t_size)) else none)) (fun K => rfl) ?_
  obtain ⟨hg668, h⟩ := xn_if h
  refine xe_pos hg668 (xe_k ?_)
  refine xe_seg ok 5 (G := (fun K => if xr_in ((1 : Int32)) 2 = true then K (48, xm_i48, xm_I48, 0, 0, 279, [(0, .ref 59), (1, .int v1), (2, .int v2)], [.int (t_kinds ((1 : Int32)).toNatClampNeg), .int ((1 : Int32)), .ref 62], xw_W (xy_a (xy_a (xy_a (xy_a (xy_a (xy_a (xy_a A 61 t_kindLetters) 65 t_kindMay) 62 t_kindNames) 63 (upd t_kindParts v1.toNatClampNeg v2)) 64 t_kindSorts) 60 t_kinds) 58 t_text) L (xy_s (xy_s (xy_s (xy_s S 57 18 t_at) 57 19 t_fault) 57 20 t_from) 57 1 t_size)) else none)) (fun K => rfl) ?_
  obtain ⟨hg669, h⟩ := xn_if h
  refine xe_pos hg669 (xe_k ?_)
  refine xe_seg ok 3 (G := (fun K => if xr_in ((1 : Int32)) 2 = true then K (48, xm_i48, xm_I48, 0, 0, 282, [(0, .ref 59), (1, .int v1), (2, .int v2)], [], xw_W (xy_a (xy_a (xy_a (xy_a (xy_a (xy_a (xy_a A 61 t_kindLetters) 65 t_kindMay) 62 t_kindNames) 63 (upd t_kindParts v1.toNatClampNeg v2)) 64 t_kindSorts) 60 (upd t_kinds ((1 : Int32)).toNatClampNeg (((t_kinds ((1 : Int32)).toNatClampNeg) + ((1 : Int32)))))) 58 t_text) L (xy_s (xy_s (xy_s (xy_s S 57 18 t_at) 57 19 t_fault) 57 20 t_from) 57 1 t_size)) else none)) (fun K => rfl) ?_
  obtain ⟨hg670, h⟩ := xn_if h
  refine xe_pos hg670 (xe_k ?_)
  obtain rfl := Option.some.inj h
  refine xe_seg ok 1 (G := (fun _ => some (.inl none, xw_W (xy_a (xy_a (xy_a (xy_a (xy_a (xy_a (xy_a A 61 t_kindLetters) 65 t_kindMay) 62 t_kindNames) 63 (upd t_kindParts v1.toNatClampNeg v2)) 64 t_kindSorts) 60 (upd t_kinds ((1 : Int32)).toNatClampNeg (((t_kinds ((1 : Int32)).toNatClampNeg) + ((1 : Int32)))))) 58 t_text) L (xy_s (xy_s (xy_s (xy_s S 57 18 t_at) 57 19 t_fault) 57 20 t_from) 57 1 t_size)))) (fun K => rfl) ?_
  exact xe_ret
theorem xh_rf_kind_57_252 {l : Launch} {g : xr_G} (ok : xr_OK xm_P) (A : Nat → Nat → Int32) (L : Nat → Nat → Int64) (S : Nat → Nat → Int32) (t_size : Int32) (t_text : (Nat → Int32)) {k126 : Int32 → Int32 → Int32 → (Nat → Int32) → (Nat → Int32) → (Nat → Int32) → (Nat → Int32) → (Nat → Int32) → (Nat → Int32) → Int32 → Int32 → Int32 → Int32 → Option (Unit × Int32 × Int32 × Int32 × (Nat → Int32) × (Nat → Int32) × (Nat → Int32) × (Nat → Int32) × (Nat → Int32) × (Nat → Int32))} (hk126 : ∀ (t_at : Int32) (t_fault : Int32) (t_from : Int32) (t_kindLetters : (Nat → Int32)) (t_kindMay : (Nat → Int32)) (t_kindNames : (Nat → Int32)) (t_kindParts : (Nat → Int32)) (t_kindSorts : (Nat → Int32)) (t_kinds : (Nat → Int32)) (v1 : Int32) (v2 : Int32) (v3 : Int32) (v4 : Int32) (r : (Unit × Int32 × Int32 × Int32 × (Nat → Int32) × (Nat → Int32) × (Nat → Int32) × (Nat → Int32) × (Nat → Int32) × (Nat → Int32))), k126 t_at t_fault t_from t_kindLetters t_kindMay t_kindNames t_kindParts t_kindSorts t_kinds v1 v2 v3 v4 = some r → xV xm_P l g (48, xm_i48, xm_I48, 0, 0, 126, [(0, .ref 59), (1, .int v1), (2, .int v2), (3, .int v3), (4, .int v4)], [], xw_W (xy_a (xy_a (xy_a (xy_a (xy_a (xy_a (xy_a A 61 t_kindLetters) 65 t_kindMay) 62 t_kindNames) 63 t_kindParts) 64 t_kindSorts) 60 t_kinds) 58 t_text) L (xy_s (xy_s (xy_s (xy_s S 57 18 t_at) 57 19 t_fault) 57 20 t_from) 57 1 t_size)) (.inl none, xw_W (xy_a (xy_a (xy_a (xy_a (xy_a (xy_a (xy_a A 61 r.2.2.2.2.1) 65 r.2.2.2.2.2.1) 62 r.2.2.2.2.2.2.1) 63 r.2.2.2.2.2.2.2.1) 64 r.2.2.2.2.2.2.2.2.1) 60 r.2.2.2.2.2.2.2.2.2) 58 t_text) L (xy_s (xy_s (xy_s (xy_s S 57 18 r.2.1) 57 19 r.2.2.1) 57 20 r.2.2.2.1) 57 1 t_size))) (n : Nat) : ∀ (t_at : Int32) (t_fault : Int32) (t_from : Int32) (t_kindLetters : (Nat → Int32)) (t_kindMay : (Nat → Int32)) (t_kindNames : (Nat → Int32)) (t_kindParts : (Nat → Int32)) (t_kindSorts : (Nat → Int32)) (t_kinds : (Nat → Int32)) (v1 : Int32) (v2 : Int32) (v3 : Int32) (v4 : Int32) (r : (Unit × Int32 × Int32 × Int32 × (Nat → Int32) × (Nat → Int32) × (Nat → Int32) × (Nat → Int32) × (Nat → Int32) × (Nat → Int32))), xf_rf_kind_252 t_size t_text k126 n t_at t_fault t_from t_kindLetters t_kindMay t_kindNames t_kindParts t_kindSorts t_kinds v1 v2 v3 v4 = some r → xV xm_P l g (48, xm_i48, xm_I48, 0, 0, 252, [(0, .ref 59), (1, .int v1), (2, .int v2), (3, .int v3), (4, .int v4)], [], xw_W (xy_a (xy_a (xy_a (xy_a (xy_a (xy_a (xy_a A 61 t_kindLetters) 65 t_kindMay) 62 t_kindNames) 63 t_kindParts) 64 t_kindSorts) 60 t_kinds) 58 t_text) L (xy_s (xy_s (xy_s (xy_s S 57 18 t_at) 57 19 t_fault) 57 20 t_from) 57 1 t_size)) (.inl none, xw_W (xy_a (xy_a (xy_a (xy_a (xy_a (xy_a (xy_a A 61 r.2.2.2.2.1) 65 r.2.2.2.2.2.1) 62 r.2.2.2.2.2.2.1) 63 r.2.2.2.2.2.2.2.1) 64 r.2.2.2.2.2.2.2.2.1) 60 r.2.2.2.2.2.2.2.2.2) 58 t_text) L (xy_s (xy_s (xy_s (xy_s S 57 18 r.2.1) 57 19 r.2.2.1) 57 20 r.2.2.2.1) 57 1 t_size)) := by
  intro t_at t_fault t_from t_kindLetters t_kindMay t_kindNames t_kindParts t_kindSorts t_kinds v1 v2 v3 v4 r h
  unfold xf_rf_kind_252 at h
  refine xe_seg ok 7 (G := (fun K => K (48, xm_i48, xm_I48, 0, 0, 126, [(0, .ref 59), (1, .int v1), (2, .int v2), (3, .int v3), (4, .int v4)], [], xw_W (xy_a (xy_a (xy_a (xy_a (xy_a (xy_a (xy_a A 61 t_kindLetters) 65 t_kindMay) 62 t_kindNames) 63 t_kindParts) 64 t_kindSorts) 60 t_kinds) 58 t_text) L (xy_s (xy_s (xy_s (xy_s S 57 18 (t_at + ((1 : Int32)))) 57 19 t_fault) 57 20 t_from) 57 1 t_size)))) (fun K => rfl) ?_
  refine xe_k ?_
  refine xe_sub [true, true, true, true, true] (lv' := [(0, .ref 59), (1, .int v1), (2, .int v2), (3, .int v3), (4, .int v4)]) rfl ?_
  exact hk126 (t_at + ((1 : Int32))) t_fault t_from t_kindLetters t_kindMay t_kindNames t_kindParts t_kindSorts t_kinds v1 v2 v3 v4 _ h
theorem xh_rf_kind_57_207 {l : Launch} {g : xr_G} (ok : xr_OK xm_P) (A : Nat → Nat → Int32) (L : Nat → Nat → Int64) (S : Nat → Nat → Int32) (t_size : Int32) (t_text : (Nat → Int32)) {k126 : Int32 → Int32 → Int32 → (Nat → Int32) → (Nat → Int32) → (Nat → Int32) → (Nat → Int32) → (Nat → Int32) → (Nat → Int32) → Int32 → Int32 → Int32 → Int32 → Option (Unit × Int32 × Int32 × Int32 × (Nat → Int32) × (Nat → Int32) × (Nat → Int32) × (Nat → Int32) × (Nat → Int32) × (Nat → Int32))} (hk126 : ∀ (t_at : Int32) (t_fault : Int32) (t_from : Int32) (t_kindLetters : (Nat → Int32)) (t_kindMay : (Nat → Int32)) (t_kindNames : (Nat → Int32)) (t_kindParts : (Nat → Int32)) (t_kindSorts : (Nat → Int32)) (t_kinds : (Nat → Int32)) (v1 : Int32) (v2 : Int32) (v3 : Int32) (v4 : Int32) (r : (Unit × Int32 × Int32 × Int32 × (Nat → Int32) × (Nat → Int32) × (Nat → Int32) × (Nat → Int32) × (Nat → Int32) × (Nat → Int32))), k126 t_at t_fault t_from t_kindLetters t_kindMay t_kindNames t_kindParts t_kindSorts t_kinds v1 v2 v3 v4 = some r → xV xm_P l g (48, xm_i48, xm_I48, 0, 0, 126, [(0, .ref 59), (1, .int v1), (2, .int v2), (3, .int v3), (4, .int v4)], [], xw_W (xy_a (xy_a (xy_a (xy_a (xy_a (xy_a (xy_a A 61 t_kindLetters) 65 t_kindMay) 62 t_kindNames) 63 t_kindParts) 64 t_kindSorts) 60 t_kinds) 58 t_text) L (xy_s (xy_s (xy_s (xy_s S 57 18 t_at) 57 19 t_fault) 57 20 t_from) 57 1 t_size)) (.inl none, xw_W (xy_a (xy_a (xy_a (xy_a (xy_a (xy_a (xy_a A 61 r.2.2.2.2.1) 65 r.2.2.2.2.2.1) 62 r.2.2.2.2.2.2.1) 63 r.2.2.2.2.2.2.2.1) 64 r.2.2.2.2.2.2.2.2.1) 60 r.2.2.2.2.2.2.2.2.2) 58 t_text) L (xy_s (xy_s (xy_s (xy_s S 57 18 r.2.1) 57 19 r.2.2.1) 57 20 r.2.2.2.1) 57 1 t_size))) (n : Nat) : ∀ (t_at : Int32) (t_fault : Int32) (t_from : Int32) (t_kindLetters : (Nat → Int32)) (t_kindMay : (Nat → Int32)) (t_kindNames : (Nat → Int32)) (t_kindParts : (Nat → Int32)) (t_kindSorts : (Nat → Int32)) (t_kinds : (Nat → Int32)) (v1 : Int32) (v2 : Int32) (v3 : Int32) (v4 : Int32) (r : (Unit × Int32 × Int32 × Int32 × (Nat → Int32) × (Nat → Int32) × (Nat → Int32) × (Nat → Int32) × (Nat → Int32) × (Nat → Int32))), xf_rf_kind_207 t_size t_text k126 n t_at t_fault t_from t_kindLetters t_kindMay t_kindNames t_kindParts t_kindSorts t_kinds v1 v2 v3 v4 = some r → xV xm_P l g (48, xm_i48, xm_I48, 0, 0, 207, [(0, .ref 59), (1, .int v1), (2, .int v2), (3, .int v3), (4, .int v4)], [], xw_W (xy_a (xy_a (xy_a (xy_a (xy_a (xy_a (xy_a A 61 t_kindLetters) 65 t_kindMay) 62 t_kindNames) 63 t_kindParts) 64 t_kindSorts) 60 t_kinds) 58 t_text) L (xy_s (xy_s (xy_s (xy_s S 57 18 t_at) 57 19 t_fault) 57 20 t_from) 57 1 t_size)) (.inl none, xw_W (xy_a (xy_a (xy_a (xy_a (xy_a (xy_a (xy_a A 61 r.2.2.2.2.1) 65 r.2.2.2.2.2.1) 62 r.2.2.2.2.2.2.1) 63 r.2.2.2.2.2.2.2.1) 64 r.2.2.2.2.2.2.2.2.1) 60 r.2.2.2.2.2.2.2.2.2) 58 t_text) L (xy_s (xy_s (xy_s (xy_s S 57 18 r.2.1) 57 19 r.2.2.1) 57 20 r.2.2.2.1) 57 1 t_size)) := by
  intro t_at t_fault t_from t_kindLetters t_kindMay t_kindNames t_kindParts t_kindSorts t_kinds v1 v2 v3 v4 r h
  unfold xf_rf_kind_207 at h
  refine xe_seg ok 4 (G := (fun K => xr_back K 48 xm_i48 xm_I48 0 0 212 [(0, .ref 59), (1, .int v1), (2, .int v2), (3, .int v3), (4, .int v4)] [] 78 true (K (39, xm_i39, xm_I39, 0, 0, 0, [(0, .ref 59), (1, .int t_at)], [], xw_W (xy_a (xy_a (xy_a (xy_a (xy_a (xy_a (xy_a A 61 t_kindLetters) 65 t_kindMay) 62 t_kindNames) 63 t_kindParts) 64 t_kindSorts) 60 t_kinds) 58 t_text) L (xy_s (xy_s (xy_s (xy_s S 57 18 t_at) 57 19 t_fault) 57 20 t_from) 57 1 t_size))))) (fun K => rfl) ?_
  obtain ⟨q679, hq679, h⟩ := Option.bind_eq_some_iff.mp h
  have heq679 := xh_rf_wrongAt_57 (l := l) (g := g) ok (xy_a (xy_a (xy_a (xy_a (xy_a (xy_a (xy_a A 61 t_kindLetters) 65 t_kindMay) 62 t_kindNames) 63 t_kindParts) 64 t_kindSorts) 60 t_kinds) 58 t_text) L (xy_s (xy_s (xy_s (xy_s S 57 18 t_at) 57 19 t_fault) 57 20 t_from) 57 1 t_size) t_fault t_at _ hq679
  refine xe_call0 (ws' := xw_W (xy_a (xy_a (xy_a (xy_a (xy_a (xy_a (xy_a A 61 t_kindLetters) 65 t_kindMay) 62 t_kindNames) 63 t_kindParts) 64 t_kindSorts) 60 t_kinds) 58 t_text) L (xy_s (xy_s (xy_s (xy_s S 57 18 t_at) 57 19 q679.2) 57 20 t_from) 57 1 t_size)) (by decide) heq679 (Or.inl rfl) ?_
  refine xe_seg ok 1 (G := (fun K => K (48, xm_i48, xm_I48, 0, 0, 252, [(0, .ref 59), (1, .int v1), (2, .int v2), (3, .int v3), (4, .int v4)], [], xw_W (xy_a (xy_a (xy_a (xy_a (xy_a (xy_a (xy_a A 61 t_kindLetters) 65 t_kindMay) 62 t_kindNames) 63 t_kindParts) 64 t_kindSorts) 60 t_kinds) 58 t_text) L (xy_s (xy_s (xy_s (xy_s S 57 18 t_at) 57 19 q679.2) 57 20 t_from) 57 1 t_size)))) (fun K => rfl) ?_
  refine xe_k ?_
  refine xe_sub [true, true, true, true, true] (lv' := [(0, .ref 59), (1, .int v1), (2, .int v2), (3, .int v3), (4, .int v4)]) rfl ?_
  exact xh_rf_kind_57_252 ok A L S t_size t_text hk126 n t_at q679.2 t_from t_kindLetters t_kindMay t_kindNames t_kindParts t_kindSorts t_kinds v1 v2 v3 v4 _ h
theorem xh_rf_sortOf_92 {l : Launch} {g : xr_G} (ok : xr_OK xm_P) (A : Nat → Nat → Int32) (L : Nat → Nat → Int64) (S : Nat → Nat → Int32) : ∀  (r : (Int32)), xf_rf_sortOf_92   = some r → xV xm_P l g (46, xm_i46, xm_I46, 0, 0, 92, [], [], xw_W A L S) (.inl (some (.int r)), xw_W A L S) := by
  intro  r h
  unfold xf_rf_sortOf_92 at h
  obtain rfl := Option.some.inj h
  refine xe_seg ok 2 (G := (fun _ => some (.inl (some (.int ((-1 : Int32)))), xw_W A L S))) (fun K => rfl) ?_
  exact xe_ret
theorem xh_rf_sortOf {l : Launch} {g : xr_G} (ok : xr_OK xm_P) (A : Nat → Nat → Int32) (L : Nat → Nat → Int64) (S : Nat → Nat → Int32) : ∀ (a1 : Int32) (r : (Int32)), xf_rf_sortOf  a1 = some r → xV xm_P l g (46, xm_i46, xm_I46, 0, 0, 0, [(0, .int a1)], [], xw_W A L S) (.inl (some (.int r)), xw_W A L S) := by
  intro a1 r h
  unfold xf_rf_sortOf at h
  refine xe_seg ok 2 (G := (fun K => if a1 = (69 : Int32) then K (46, xm_i46, xm_I46, 0, 0, 90, [(0, .int a1)], [], xw_W A L S) else if a1 = (70 : Int32) then K (46, xm_i46, xm_I46, 0, 0, 92, [(0, .int a1)], [], xw_W A L S) else if a1 = (71 : Int32) then K (46, xm_i46, xm_I46, 0, 0, 92, [(0, .int a1)], [], xw_W A L S) else if a1 = (72 : Int32) then K (46, xm_i46, xm_I46, 0, 0, 92, [(0, .int a1)], [], xw_W A L S) else if a1 = (73 : Int32) then K (46, xm_i46, xm_I46, 0, 0, 80, [(0, .int a1)], [], xw_W A L S) else if a1 = (74 : Int32) then K (46, xm_i46, xm_I46, 0, 0, 92, [(0, .int a1)], [], xw_W A L S) else if a1 = (75 : Int32) then K (46, xm_i46, xm_I46, 0, 0, 92, [(0, .int a1)], [], xw_W A L S) else if a1 = (76 : Int32) then K (46, xm_i46, xm_I46, 0, 0, 86, [(0, .int a1)], [], xw_W A L S) else if a1 = (77 : Int32) then K (46, xm_i46, xm_I46, 0, 0, 88, [(0, .int a1)], [], xw_W A L S) else if a1 = (78 : Int32) then K (46, xm_i46, xm_I46, 0, 0, 92, [(0, .int a1)], [], xw_W A L S) else if a1 = (79 : Int32) then K (46, xm_i46, xm_I46, 0, 0, 92, [(0, .int a1)], [], xw_W A L S) else if a1 = (80 : Int32) then K (46, xm_i46, xm_I46, 0, 0, 92, [(0, .int a1)], [], xw_W A L S) else if a1 = (81 : Int32) then K (46, xm_i46, xm_I46, 0, 0, 92, [(0, .int a1)], [], xw_W A L S) else if a1 = (82 : Int32) then K (46, xm_i46, xm_I46, 0, 0, 84, [(0, .int a1)], [], xw_W A L S) else if a1 = (83 : Int32) then K (46, xm_i46, xm_I46, 0, 0, 92, [(0, .int a1)], [], xw_W A L S) else if a1 = (84 : Int32) then K (46, xm_i46, xm_I46, 0, 0, 82, [(0, .int a1)], [], xw_W A L S) else K (46, xm_i46, xm_I46, 0, 0, 92, [(0, .int a1)], [], xw_W A L S))) (fun K => rfl) ?_
  rcases xb_if h with ⟨hc680, h⟩ | ⟨hc680, h⟩
  · refine xe_pos hc680 (xe_k ?_)
    obtain rfl := Option.some.inj h
    refine xe_seg ok 2 (G := (fun _ => some (.inl (some (.int ((5 : Int32)))), xw_W A L S))) (fun K => rfl) ?_
    exact xe_ret
  · refine xe_neg hc680 ?_
    rcases xb_if h with ⟨hc681, h⟩ | ⟨hc681, h⟩
    · refine xe_pos hc681 (xe_k ?_)
      refine xe_sub [false] (lv' := []) rfl ?_
      exact xh_rf_sortOf_92 ok A L S  _ h
    · refine xe_neg hc681 ?_
      rcases xb_if h with ⟨hc682, h⟩ | ⟨hc682, h⟩
      · refine xe_pos hc682 (xe_k ?_)
        refine xe_sub [false] (lv' := []) rfl ?_
        exact xh_rf_sortOf_92 ok A L S  _ h
      · refine xe_neg hc682 ?_
        rcases xb_if h with ⟨hc683, h⟩ | ⟨hc683, h⟩
        · refine xe_pos hc683 (xe_k ?_)
          refine xe_sub [false] (lv' := []) rfl ?_
          exact xh_rf_sortOf_92 ok A L S  _ h
        · refine xe_neg hc683 ?_
          rcases xb_if h with ⟨hc684, h⟩ | ⟨hc684, h⟩
          · refine xe_pos hc684 (xe_k ?_)
            obtain rfl := Option.some.inj h
            refine xe_seg ok 2 (G := (fun _ => some (.inl (some (.int ((0 : Int32)))), xw_W A L S))) (fun K => rfl) ?_
            exact xe_ret
          · refine xe_neg hc684 ?_
            rcases xb_if h with ⟨hc685, h⟩ | ⟨hc685, h⟩
            · refine xe_pos hc685 (xe_k ?_)
              refine xe_sub [false] (lv' := []) rfl ?_
              exact xh_rf_sortOf_92 ok A L S  _ h
            · refine xe_neg hc685 ?_
              rcases xb_if h with ⟨hc686, h⟩ | ⟨hc686, h⟩
              · refine xe_pos hc686 (xe_k ?_)
                refine xe_sub [false] (lv' := []) rfl ?_
                exact xh_rf_sortOf_92 ok A L S  _ h
              · refine xe_neg hc686 ?_
                rcases xb_if h with ⟨hc687, h⟩ | ⟨hc687, h⟩
                · refine xe_pos hc687 (xe_k ?_)
                  obtain rfl := Option.some.inj h
                  refine xe_seg ok 2 (G := (fun _ => some (.inl (some (.int ((3 : Int32)))), xw_W A L S))) (fun K => rfl) ?_
                  exact xe_ret
                · refine xe_neg hc687 ?_
                  rcases xb_if h with ⟨hc688, h⟩ | ⟨hc688, h⟩
                  · refine xe_pos hc688 (xe_k ?_)
                    obtain rfl := Option.some.inj h
                    refine xe_seg ok 2 (G := (fun _ => some (.inl (some (.int ((4 : Int32)))), xw_W A L S))) (fun K => rfl) ?_
                    exact xe_ret
                  · refine xe_neg hc688 ?_
                    rcases xb_if h with ⟨hc689, h⟩ | ⟨hc689, h⟩
                    · refine xe_pos hc689 (xe_k ?_)
                      refine xe_sub [false] (lv' := []) rfl ?_
                      exact xh_rf_sortOf_92 ok A L S  _ h
                    · refine xe_neg hc689 ?_
                      rcases xb_if h with ⟨hc690, h⟩ | ⟨hc690, h⟩
                      · refine xe_pos hc690 (xe_k ?_)
                        refine xe_sub [false] (lv' := []) rfl ?_
                        exact xh_rf_sortOf_92 ok A L S  _ h
                      · refine xe_neg hc690 ?_
                        rcases xb_if h with ⟨hc691, h⟩ | ⟨hc691, h⟩
                        · refine xe_pos hc691 (xe_k ?_)
                          refine xe_sub [false] (lv' := []) rfl ?_
                          exact xh_rf_sortOf_92 ok A L S  _ h
                        · refine xe_neg hc691 ?_
                          rcases xb_if h with ⟨hc692, h⟩ | ⟨hc692, h⟩
                          · refine xe_pos hc692 (xe_k ?_)
                            refine xe_sub [false] (lv' := []) rfl ?_
                            exact xh_rf_sortOf_92 ok A L S  _ h
                          · refine xe_neg hc692 ?_
                            rcases xb_if h with ⟨hc693, h⟩ | ⟨hc693, h⟩
                            · refine xe_pos hc693 (xe_k ?_)
                              obtain rfl := Option.some.inj h
                              refine xe_seg ok 2 (G := (fun _ => some (.inl (some (.int ((2 : Int32)))), xw_W A L S))) (fun K => rfl) ?_
                              exact xe_ret
                            · refine xe_neg hc693 ?_
                              rcases xb_if h with ⟨hc694, h⟩ | ⟨hc694, h⟩
                              · refine xe_pos hc694 (xe_k ?_)
                                refine xe_sub [false] (lv' := []) rfl ?_
                                exact xh_rf_sortOf_92 ok A L S  _ h
                              · refine xe_neg hc694 ?_
                                rcases xb_if h with ⟨hc695, h⟩ | ⟨hc695, h⟩
                                · refine xe_pos hc695 (xe_k ?_)
                                  obtain rfl := Option.some.inj h
                                  refine xe_seg ok 2 (G := (fun _ => some (.inl (some (.int ((1 : Int32)))), xw_W A L S))) (fun K => rfl) ?_
                                  exact xe_ret
                                · refine xe_neg hc695 ?_
                                  refine xe_k ?_
                                  refine xe_sub [false] (lv' := []) rfl ?_
                                  exact xh_rf_sortOf_92 ok A L S  _ h
theorem xh_rf_kind_57_192 {l : Launch} {g : xr_G} (ok : xr_OK xm_P) (A : Nat → Nat → Int32) (L : Nat → Nat → Int64) (S : Nat → Nat → Int32) (t_size : Int32) (t_text : (Nat → Int32)) {k126 : Int32 → Int32 → Int32 → (Nat → Int32) → (Nat → Int32) → (Nat → Int32) → (Nat → Int32) → (Nat → Int32) → (Nat → Int32) → Int32 → Int32 → Int32 → Int32 → Option (Unit × Int32 × Int32 × Int32 × (Nat → Int32) × (Nat → Int32) × (Nat → Int32) × (Nat → Int32) × (Nat → Int32) × (Nat → Int32))} (hk126 : ∀ (t_at : Int32) (t_fault : Int32) (t_from : Int32) (t_kindLetters : (Nat → Int32)) (t_kindMay : (Nat → Int32)) (t_kindNames : (Nat → Int32)) (t_kindParts : (Nat → Int32)) (t_kindSorts : (Nat → Int32)) (t_kinds : (Nat → Int32)) (v1 : Int32) (v2 : Int32) (v3 : Int32) (v4 : Int32) (r : (Unit × Int32 × Int32 × Int32 × (Nat → Int32) × (Nat → Int32) × (Nat → Int32) × (Nat → Int32) × (Nat → Int32) × (Nat → Int32))), k126 t_at t_fault t_from t_kindLetters t_kindMay t_kindNames t_kindParts t_kindSorts t_kinds v1 v2 v3 v4 = some r → xV xm_P l g (48, xm_i48, xm_I48, 0, 0, 126, [(0, .ref 59), (1, .int v1), (2, .int v2), (3, .int v3), (4, .int v4)], [], xw_W (xy_a (xy_a (xy_a (xy_a (xy_a (xy_a (xy_a A 61 t_kindLetters) 65 t_kindMay) 62 t_kindNames) 63 t_kindParts) 64 t_kindSorts) 60 t_kinds) 58 t_text) L (xy_s (xy_s (xy_s (xy_s S 57 18 t_at) 57 19 t_fault) 57 20 t_from) 57 1 t_size)) (.inl none, xw_W (xy_a (xy_a (xy_a (xy_a (xy_a (xy_a (xy_a A 61 r.2.2.2.2.1) 65 r.2.2.2.2.2.1) 62 r.2.2.2.2.2.2.1) 63 r.2.2.2.2.2.2.2.1) 64 r.2.2.2.2.2.2.2.2.1) 60 r.2.2.2.2.2.2.2.2.2) 58 t_text) L (xy_s (xy_s (xy_s (xy_s S 57 18 r.2.1) 57 19 r.2.2.1) 57 20 r.2.2.2.1) 57 1 t_size))) (n : Nat) : ∀ (t_at : Int32) (t_fault : Int32) (t_from : Int32) (t_kindLetters : (Nat → Int32)) (t_kindMay : (Nat → Int32)) (t_kindNames : (Nat → Int32)) (t_kindParts : (Nat → Int32)) (t_kindSorts : (Nat → Int32)) (t_kinds : (Nat → Int32)) (v1 : Int32) (v2 : Int32) (v3 : Int32) (v4 : Int32) (v5 : Int32) (r : (Unit × Int32 × Int32 × Int32 × (Nat → Int32) × (Nat → Int32) × (Nat → Int32) × (Nat → Int32) × (Nat → Int32) × (Nat → Int32))), xf_rf_kind_192 t_size t_text k126 n t_at t_fault t_from t_kindLetters t_kindMay t_kindNames t_kindParts t_kindSorts t_kinds v1 v2 v3 v4 v5 = some r → xV xm_P l g (48, xm_i48, xm_I48, 0, 0, 192, [(0, .ref 59), (1, .int v1), (2, .int v2), (3, .int v3), (4, .int v4), (5, .int v5)], [], xw_W (xy_a (xy_a (xy_a (xy_a (xy_a (xy_a (xy_a A 61 t_kindLetters) 65 t_kindMay) 62 t_kindNames) 63 t_kindParts) 64 t_kindSorts) 60 t_kinds) 58 t_text) L (xy_s (xy_s (xy_s (xy_s S 57 18 t_at) 57 19 t_fault) 57 20 t_from) 57 1 t_size)) (.inl none, xw_W (xy_a (xy_a (xy_a (xy_a (xy_a (xy_a (xy_a A 61 r.2.2.2.2.1) 65 r.2.2.2.2.2.1) 62 r.2.2.2.2.2.2.1) 63 r.2.2.2.2.2.2.2.1) 64 r.2.2.2.2.2.2.2.2.1) 60 r.2.2.2.2.2.2.2.2.2) 58 t_text) L (xy_s (xy_s (xy_s (xy_s S 57 18 r.2.1) 57 19 r.2.2.1) 57 20 r.2.2.2.1) 57 1 t_size)) := by
  intro t_at t_fault t_from t_kindLetters t_kindMay t_kindNames t_kindParts t_kindSorts t_kinds v1 v2 v3 v4 v5 r h
  unfold xf_rf_kind_192 at h
  refine xe_seg ok 3 (G := (fun K => if v2 = ((8 : Int32)) then K (48, xm_i48, xm_I48, 0, 0, 207, [(0, .ref 59), (1, .int v1), (2, .int v2), (3, .int v3), (4, .int v4), (5, .int v5)], [], xw_W (xy_a (xy_a (xy_a (xy_a (xy_a (xy_a (xy_a A 61 t_kindLetters) 65 t_kindMay) 62 t_kindNames) 63 t_kindParts) 64 t_kindSorts) 60 t_kinds) 58 t_text) L (xy_s (xy_s (xy_s (xy_s S 57 18 t_at) 57 19 t_fault) 57 20 t_from) 57 1 t_size)) else K (48, xm_i48, xm_I48, 0, 0, 198, [(0, .ref 59), (1, .int v1), (2, .int v2), (3, .int v3), (4, .int v4), (5, .int v5)], [], xw_W (xy_a (xy_a (xy_a (xy_a (xy_a (xy_a (xy_a A 61 t_kindLetters) 65 t_kindMay) 62 t_kindNames) 63 t_kindParts) 64 t_kindSorts) 60 t_kinds) 58 t_text) L (xy_s (xy_s (xy_s (xy_s S 57 18 t_at) 57 19 t_fault) 57 20 t_from) 57 1 t_size)))) (fun K => rfl) ?_
  rcases xb_if h with ⟨hc678, h⟩ | ⟨hc678, h⟩
  · refine xe_pos hc678 (xe_k ?_)
    refine xe_sub [true, true, true, true, true, false] (lv' := [(0, .ref 59), (1, .int v1), (2, .int v2), (3, .int v3), (4, .int v4)]) rfl ?_
    exact xh_rf_kind_57_207 ok A L S t_size t_text hk126 n t_at t_fault t_from t_kindLetters t_kindMay t_kindNames t_kindParts t_kindSorts t_kinds v1 v2 v3 v4 _ h
  · refine xe_neg hc678 (xe_k ?_)
    refine xe_seg ok 2 (G := (fun K => xr_back K 48 xm_i48 xm_I48 0 0 200 [(0, .ref 59), (1, .int v1), (2, .int v2), (3, .int v3), (4, .int v4), (5, .int v5)] [] 78 true (K (46, xm_i46, xm_I46, 0, 0, 0, [(0, .int v5)], [], xw_W (xy_a (xy_a (xy_a (xy_a (xy_a (xy_a (xy_a A 61 t_kindLetters) 65 t_kindMay) 62 t_kindNames) 63 t_kindParts) 64 t_kindSorts) 60 t_kinds) 58 t_text) L (xy_s (xy_s (xy_s (xy_s S 57 18 t_at) 57 19 t_fault) 57 20 t_from) 57 1 t_size))))) (fun K => rfl) ?_
    obtain ⟨q696, hq696, h⟩ := Option.bind_eq_some_iff.mp h
    have heq696 := xh_rf_sortOf (l := l) (g := g) ok (xy_a (xy_a (xy_a (xy_a (xy_a (xy_a (xy_a A 61 t_kindLetters) 65 t_kindMay) 62 t_kindNames) 63 t_kindParts) 64 t_kindSorts) 60 t_kinds) 58 t_text) L (xy_s (xy_s (xy_s (xy_s S 57 18 t_at) 57 19 t_fault) 57 20 t_from) 57 1 t_size) v5 _ hq696
    refine xe_call1 (ws' := xw_W (xy_a (xy_a (xy_a (xy_a (xy_a (xy_a (xy_a A 61 t_kindLetters) 65 t_kindMay) 62 t_kindNames) 63 t_kindParts) 64 t_kindSorts) 60 t_kinds) 58 t_text) L (xy_s (xy_s (xy_s (xy_s S 57 18 t_at) 57 19 t_fault) 57 20 t_from) 57 1 t_size)) (by decide) heq696 (Or.inl rfl) ?_
    refine xe_seg ok 2 (G := (fun K => if q696 = ((-1 : Int32)) then K (48, xm_i48, xm_I48, 0, 0, 207, [(0, .ref 59), (1, .int v1), (2, .int v2), (3, .int v3), (4, .int v4), (5, .int v5)], [], xw_W (xy_a (xy_a (xy_a (xy_a (xy_a (xy_a (xy_a A 61 t_kindLetters) 65 t_kindMay) 62 t_kindNames) 63 t_kindParts) 64 t_kindSorts) 60 t_kinds) 58 t_text) L (xy_s (xy_s (xy_s (xy_s S 57 18 t_at) 57 19 t_fault) 57 20 t_from) 57 1 t_size)) else K (48, xm_i48, xm_I48, 0, 0, 218, [(0, .ref 59), (1, .int v1), (2, .int v2), (3, .int v3), (4, .int v4), (5, .int v5)], [], xw_W (xy_a (xy_a (xy_a (xy_a (xy_a (xy_a (xy_a A 61 t_kindLetters) 65 t_kindMay) 62 t_kindNames) 63 t_kindParts) 64 t_kindSorts) 60 t_kinds) 58 t_text) L (xy_s (xy_s (xy_s (xy_s S 57 18 t_at) 57 19 t_fault) 57 20 t_from) 57 1 t_size)))) (fun K => rfl) ?_
    rcases xb_if h with ⟨hc697, h⟩ | ⟨hc697, h⟩
    · refine xe_pos hc697 (xe_k ?_)
      refine xe_sub [true, true, true, true, true, false] (lv' := [(0, .ref 59), (1, .int v1), (2, .int v2), (3, .int v3), (4, .int v4)]) rfl ?_
      exact xh_rf_kind_57_207 ok A L S t_size t_text hk126 n t_at t_fault t_from t_kindLetters t_kindMay t_kindNames t_kindParts t_kindSorts t_kinds v1 v2 v3 v4 _ h
    · refine xe_neg hc697 (xe_k ?_)
      refine xe_seg ok 9 (G := (fun K => xr_back K 48 xm_i48 xm_I48 0 0 230 [(0, .ref 59), (1, .int v1), (2, .int v2), (3, .int v3), (4, .int v4), (5, .int v5)] [.int ((((8 : Int32)) * v1) + v2), .ref 66] 78 true (K (46, xm_i46, xm_I46, 0, 0, 0, [(0, .int v5)], [], xw_W (xy_a (xy_a (xy_a (xy_a (xy_a (xy_a (xy_a A 61 t_kindLetters) 65 t_kindMay) 62 t_kindNames) 63 t_kindParts) 64 t_kindSorts) 60 t_kinds) 58 t_text) L (xy_s (xy_s (xy_s (xy_s S 57 18 t_at) 57 19 t_fault) 57 20 t_from) 57 1 t_size))))) (fun K => rfl) ?_
      obtain ⟨q698, hq698, h⟩ := Option.bind_eq_some_iff.mp h
      have heq698 := xh_rf_sortOf (l := l) (g := g) ok (xy_a (xy_a (xy_a (xy_a (xy_a (xy_a (xy_a A 61 t_kindLetters) 65 t_kindMay) 62 t_kindNames) 63 t_kindParts) 64 t_kindSorts) 60 t_kinds) 58 t_text) L (xy_s (xy_s (xy_s (xy_s S 57 18 t_at) 57 19 t_fault) 57 20 t_from) 57 1 t_size) v5 _ hq698
      refine xe_call1 (ws' := xw_W (xy_a (xy_a (xy_a (xy_a (xy_a (xy_a (xy_a A 61 t_kindLetters) 65 t_kindMay) 62 t_kindNames) 63 t_kindParts) 64 t_kindSorts) 60 t_kinds) 58 t_text) L (xy_s (xy_s (xy_s (xy_s S 57 18 t_at) 57 19 t_fault) 57 20 t_from) 57 1 t_size)) (by decide) heq698 (Or.inl rfl) ?_
      refine xe_seg ok 1 (G := (fun K => if xr_in ((((8 : Int32)) * v1) + v2) 192 = true then K (48, xm_i48, xm_I48, 0, 0, 234, [(0, .ref 59), (1, .int v1), (2, .int v2), (3, .int v3), (4, .int v4), (5, .int v5)], [], xw_W (xy_a (xy_a (xy_a (xy_a (xy_a (xy_a (xy_a A 61 t_kindLetters) 65 t_kindMay) 62 t_kindNames) 63 t_kindParts) 64 (upd t_kindSorts ((((8 : Int32)) * v1) + v2).toNatClampNeg q698)) 60 t_kinds) 58 t_text) L (xy_s (xy_s (xy_s (xy_s S 57 18 t_at) 57 19 t_fault) 57 20 t_from) 57 1 t_size)) else none)) (fun K => rfl) ?_
      obtain ⟨hg699, h⟩ := xn_if h
      refine xe_pos hg699 (xe_k ?_)
      refine xe_seg ok 9 (G := (fun K => if xr_in ((((8 : Int32)) * v1) + v2) 192 = true then K (48, xm_i48, xm_I48, 0, 0, 246, [(0, .ref 59), (1, .int v1), (2, .int v2), (3, .int v3), (4, .int v4), (5, .int v5)], [], xw_W (xy_a (xy_a (xy_a (xy_a (xy_a (xy_a (xy_a A 61 t_kindLetters) 65 (upd t_kindMay ((((8 : Int32)) * v1) + v2).toNatClampNeg (vp_nar .boolean ((0 : Int32))))) 62 t_kindNames) 63 t_kindParts) 64 (upd t_kindSorts ((((8 : Int32)) * v1) + v2).toNatClampNeg q698)) 60 t_kinds) 58 t_text) L (xy_s (xy_s (xy_s (xy_s S 57 18 t_at) 57 19 t_fault) 57 20 t_from) 57 1 t_size)) else none)) (fun K => rfl) ?_
      obtain ⟨hg700, h⟩ := xn_if h
      refine xe_pos hg700 (xe_k ?_)
      refine xe_seg ok 3 (G := (fun K => K (48, xm_i48, xm_I48, 0, 0, 252, [(0, .ref 59), (1, .int v1), (2, .int (v2 + (1 : Int32))), (3, .int v3), (4, .int ((0 : Int32))), (5, .int v5)], [], xw_W (xy_a (xy_a (xy_a (xy_a (xy_a (xy_a (xy_a A 61 t_kindLetters) 65 (upd t_kindMay ((((8 : Int32)) * v1) + v2).toNatClampNeg (vp_nar .boolean ((0 : Int32))))) 62 t_kindNames) 63 t_kindParts) 64 (upd t_kindSorts ((((8 : Int32)) * v1) + v2).toNatClampNeg q698)) 60 t_kinds) 58 t_text) L (xy_s (xy_s (xy_s (xy_s S 57 18 t_at) 57 19 t_fault) 57 20 t_from) 57 1 t_size)))) (fun K => rfl) ?_
      refine xe_k ?_
      refine xe_sub [true, true, true, true, true, false] (lv' := [(0, .ref 59), (1, .int v1), (2, .int (v2 + (1 : Int32))), (3, .int v3), (4, .int ((0 : Int32)))]) rfl ?_
      exact xh_rf_kind_57_252 ok A L S t_size t_text hk126 n t_at t_fault t_from t_kindLetters (upd t_kindMay ((((8 : Int32)) * v1) + v2).toNatClampNeg (vp_nar .boolean ((0 : Int32)))) t_kindNames t_kindParts (upd t_kindSorts ((((8 : Int32)) * v1) + v2).toNatClampNeg q698) t_kinds v1 (v2 + (1 : Int32)) v3 ((0 : Int32)) _ h
theorem xh_rf_kind_57_160 {l : Launch} {g : xr_G} (ok : xr_OK xm_P) (A : Nat → Nat → Int32) (L : Nat → Nat → Int64) (S : Nat → Nat → Int32) (t_size : Int32) (t_text : (Nat → Int32)) {k126 : Int32 → Int32 → Int32 → (Nat → Int32) → (Nat → Int32) → (Nat → Int32) → (Nat → Int32) → (Nat → Int32) → (Nat → Int32) → Int32 → Int32 → Int32 → Int32 → Option (Unit × Int32 × Int32 × Int32 × (Nat → Int32) × (Nat → Int32) × (Nat → Int32) × (Nat → Int32) × (Nat → Int32) × (Nat → Int32))} (hk126 : ∀ (t_at : Int32) (t_fault : Int32) (t_from : Int32) (t_kindLetters : (Nat → Int32)) (t_kindMay : (Nat → Int32)) (t_kindNames : (Nat → Int32)) (t_kindParts : (Nat → Int32)) (t_kindSorts : (Nat → Int32)) (t_kinds : (Nat → Int32)) (v1 : Int32) (v2 : Int32) (v3 : Int32) (v4 : Int32) (r : (Unit × Int32 × Int32 × Int32 × (Nat → Int32) × (Nat → Int32) × (Nat → Int32) × (Nat → Int32) × (Nat → Int32) × (Nat → Int32))), k126 t_at t_fault t_from t_kindLetters t_kindMay t_kindNames t_kindParts t_kindSorts t_kinds v1 v2 v3 v4 = some r → xV xm_P l g (48, xm_i48, xm_I48, 0, 0, 126, [(0, .ref 59), (1, .int v1), (2, .int v2), (3, .int v3), (4, .int v4)], [], xw_W (xy_a (xy_a (xy_a (xy_a (xy_a (xy_a (xy_a A 61 t_kindLetters) 65 t_kindMay) 62 t_kindNames) 63 t_kindParts) 64 t_kindSorts) 60 t_kinds) 58 t_text) L (xy_s (xy_s (xy_s (xy_s S 57 18 t_at) 57 19 t_fault) 57 20 t_from) 57 1 t_size)) (.inl none, xw_W (xy_a (xy_a (xy_a (xy_a (xy_a (xy_a (xy_a A 61 r.2.2.2.2.1) 65 r.2.2.2.2.2.1) 62 r.2.2.2.2.2.2.1) 63 r.2.2.2.2.2.2.2.1) 64 r.2.2.2.2.2.2.2.2.1) 60 r.2.2.2.2.2.2.2.2.2) 58 t_text) L (xy_s (xy_s (xy_s (xy_s S 57 18 r.2.1) 57 19 r.2.2.1) 57 20 r.2.2.2.1) 57 1 t_size))) (n : Nat) : ∀ (t_at : Int32) (t_fault : Int32) (t_from : Int32) (t_kindLetters : (Nat → Int32)) (t_kindMay : (Nat → Int32)) (t_kindNames : (Nat → Int32)) (t_kindParts : (Nat → Int32)) (t_kindSorts : (Nat → Int32)) (t_kinds : (Nat → Int32)) (v1 : Int32) (v2 : Int32) (v3 : Int32) (v4 : Int32) (v5 : Int32) (r : (Unit × Int32 × Int32 × Int32 × (Nat → Int32) × (Nat → Int32) × (Nat → Int32) × (Nat → Int32) × (Nat → Int32) × (Nat → Int32))), xf_rf_kind_160 t_size t_text k126 n t_at t_fault t_from t_kindLetters t_kindMay t_kindNames t_kindParts t_kindSorts t_kinds v1 v2 v3 v4 v5 = some r → xV xm_P l g (48, xm_i48, xm_I48, 0, 0, 160, [(0, .ref 59), (1, .int v1), (2, .int v2), (3, .int v3), (4, .int v4), (5, .int v5)], [], xw_W (xy_a (xy_a (xy_a (xy_a (xy_a (xy_a (xy_a A 61 t_kindLetters) 65 t_kindMay) 62 t_kindNames) 63 t_kindParts) 64 t_kindSorts) 60 t_kinds) 58 t_text) L (xy_s (xy_s (xy_s (xy_s S 57 18 t_at) 57 19 t_fault) 57 20 t_from) 57 1 t_size)) (.inl none, xw_W (xy_a (xy_a (xy_a (xy_a (xy_a (xy_a (xy_a A 61 r.2.2.2.2.1) 65 r.2.2.2.2.2.1) 62 r.2.2.2.2.2.2.1) 63 r.2.2.2.2.2.2.2.1) 64 r.2.2.2.2.2.2.2.2.1) 60 r.2.2.2.2.2.2.2.2.2) 58 t_text) L (xy_s (xy_s (xy_s (xy_s S 57 18 r.2.1) 57 19 r.2.2.1) 57 20 r.2.2.2.1) 57 1 t_size)) := by
  intro t_at t_fault t_from t_kindLetters t_kindMay t_kindNames t_kindParts t_kindSorts t_kinds v1 v2 v3 v4 v5 r h
  unfold xf_rf_kind_160 at h
  refine xe_seg ok 2 (G := (fun K => if v4 = (0 : Int32) then K (48, xm_i48, xm_I48, 0, 0, 165, [(0, .ref 59), (1, .int v1), (2, .int v2), (3, .int v3), (4, .int v4), (5, .int v5)], [], xw_W (xy_a (xy_a (xy_a (xy_a (xy_a (xy_a (xy_a A 61 t_kindLetters) 65 t_kindMay) 62 t_kindNames) 63 t_kindParts) 64 t_kindSorts) 60 t_kinds) 58 t_text) L (xy_s (xy_s (xy_s (xy_s S 57 18 t_at) 57 19 t_fault) 57 20 t_from) 57 1 t_size)) else K (48, xm_i48, xm_I48, 0, 0, 192, [(0, .ref 59), (1, .int v1), (2, .int v2), (3, .int v3), (4, .int v4), (5, .int v5)], [], xw_W (xy_a (xy_a (xy_a (xy_a (xy_a (xy_a (xy_a A 61 t_kindLetters) 65 t_kindMay) 62 t_kindNames) 63 t_kindParts) 64 t_kindSorts) 60 t_kinds) 58 t_text) L (xy_s (xy_s (xy_s (xy_s S 57 18 t_at) 57 19 t_fault) 57 20 t_from) 57 1 t_size)))) (fun K => rfl) ?_
  rcases xb_if h with ⟨hc675, h⟩ | ⟨hc675, h⟩
  · refine xe_pos hc675 (xe_k ?_)
    refine xe_seg ok 3 (G := (fun K => if v5 = ((63 : Int32)) then K (48, xm_i48, xm_I48, 0, 0, 172, [(0, .ref 59), (1, .int v1), (2, .int v2), (3, .int v3), (4, .int v4), (5, .int v5)], [], xw_W (xy_a (xy_a (xy_a (xy_a (xy_a (xy_a (xy_a A 61 t_kindLetters) 65 t_kindMay) 62 t_kindNames) 63 t_kindParts) 64 t_kindSorts) 60 t_kinds) 58 t_text) L (xy_s (xy_s (xy_s (xy_s S 57 18 t_at) 57 19 t_fault) 57 20 t_from) 57 1 t_size)) else K (48, xm_i48, xm_I48, 0, 0, 192, [(0, .ref 59), (1, .int v1), (2, .int v2), (3, .int v3), (4, .int v4), (5, .int v5)], [], xw_W (xy_a (xy_a (xy_a (xy_a (xy_a (xy_a (xy_a A 61 t_kindLetters) 65 t_kindMay) 62 t_kindNames) 63 t_kindParts) 64 t_kindSorts) 60 t_kinds) 58 t_text) L (xy_s (xy_s (xy_s (xy_s S 57 18 t_at) 57 19 t_fault) 57 20 t_from) 57 1 t_size)))) (fun K => rfl) ?_
    rcases xb_if h with ⟨hc676, h⟩ | ⟨hc676, h⟩
    · refine xe_pos hc676 (xe_k ?_)
      refine xe_seg ok 11 (G := (fun K => if xr_in (((((8 : Int32)) * v1) + v2) - ((1 : Int32))) 192 = true then K (48, xm_i48, xm_I48, 0, 0, 186, [(0, .ref 59), (1, .int v1), (2, .int v2), (3, .int v3), (4, .int v4), (5, .int v5)], [], xw_W (xy_a (xy_a (xy_a (xy_a (xy_a (xy_a (xy_a A 61 t_kindLetters) 65 (upd t_kindMay (((((8 : Int32)) * v1) + v2) - ((1 : Int32))).toNatClampNeg (vp_nar .boolean ((1 : Int32))))) 62 t_kindNames) 63 t_kindParts) 64 t_kindSorts) 60 t_kinds) 58 t_text) L (xy_s (xy_s (xy_s (xy_s S 57 18 t_at) 57 19 t_fault) 57 20 t_from) 57 1 t_size)) else none)) (fun K => rfl) ?_
      obtain ⟨hg677, h⟩ := xn_if h
      refine xe_pos hg677 (xe_k ?_)
      refine xe_seg ok 3 (G := (fun K => K (48, xm_i48, xm_I48, 0, 0, 252, [(0, .ref 59), (1, .int v1), (2, .int v2), (3, .int v3), (4, .int ((1 : Int32))), (5, .int v5)], [], xw_W (xy_a (xy_a (xy_a (xy_a (xy_a (xy_a (xy_a A 61 t_kindLetters) 65 (upd t_kindMay (((((8 : Int32)) * v1) + v2) - ((1 : Int32))).toNatClampNeg (vp_nar .boolean ((1 : Int32))))) 62 t_kindNames) 63 t_kindParts) 64 t_kindSorts) 60 t_kinds) 58 t_text) L (xy_s (xy_s (xy_s (xy_s S 57 18 t_at) 57 19 t_fault) 57 20 t_from) 57 1 t_size)))) (fun K => rfl) ?_
      refine xe_k ?_
      refine xe_sub [true, true, true, true, true, false] (lv' := [(0, .ref 59), (1, .int v1), (2, .int v2), (3, .int v3), (4, .int ((1 : Int32)))]) rfl ?_
      exact xh_rf_kind_57_252 ok A L S t_size t_text hk126 n t_at t_fault t_from t_kindLetters (upd t_kindMay (((((8 : Int32)) * v1) + v2) - ((1 : Int32))).toNatClampNeg (vp_nar .boolean ((1 : Int32)))) t_kindNames t_kindParts t_kindSorts t_kinds v1 v2 v3 ((1 : Int32)) _ h
    · refine xe_neg hc676 (xe_k ?_)
      refine xe_sub [true, true, true, true, true, true] (lv' := [(0, .ref 59), (1, .int v1), (2, .int v2), (3, .int v3), (4, .int v4), (5, .int v5)]) rfl ?_
      exact xh_rf_kind_57_192 ok A L S t_size t_text hk126 n t_at t_fault t_from t_kindLetters t_kindMay t_kindNames t_kindParts t_kindSorts t_kinds v1 v2 v3 v4 v5 _ h
  · refine xe_neg hc675 (xe_k ?_)
    refine xe_sub [true, true, true, true, true, true] (lv' := [(0, .ref 59), (1, .int v1), (2, .int v2), (3, .int v3), (4, .int v4), (5, .int v5)]) rfl ?_
    exact xh_rf_kind_57_192 ok A L S t_size t_text hk126 n t_at t_fault t_from t_kindLetters t_kindMay t_kindNames t_kindParts t_kindSorts t_kinds v1 v2 v3 v4 v5 _ h
theorem xh_rf_kind_57_126 {l : Launch} {g : xr_G} (ok : xr_OK xm_P) (A : Nat → Nat → Int32) (L : Nat → Nat → Int64) (S : Nat → Nat → Int32) (t_size : Int32) (t_text : (Nat → Int32)) (n : Nat) : ∀ (N : Nat) (t_at : Int32) (t_fault : Int32) (t_from : Int32) (t_kindLetters : (Nat → Int32)) (t_kindMay : (Nat → Int32)) (t_kindNames : (Nat → Int32)) (t_kindParts : (Nat → Int32)) (t_kindSorts : (Nat → Int32)) (t_kinds : (Nat → Int32)) (v1 : Int32) (v2 : Int32) (v3 : Int32) (v4 : Int32) (r : (Unit × Int32 × Int32 × Int32 × (Nat → Int32) × (Nat → Int32) × (Nat → Int32) × (Nat → Int32) × (Nat → Int32) × (Nat → Int32))), xf_rf_kind_126 t_size t_text n N t_at t_fault t_from t_kindLetters t_kindMay t_kindNames t_kindParts t_kindSorts t_kinds v1 v2 v3 v4 = some r → xV xm_P l g (48, xm_i48, xm_I48, 0, 0, 126, [(0, .ref 59), (1, .int v1), (2, .int v2), (3, .int v3), (4, .int v4)], [], xw_W (xy_a (xy_a (xy_a (xy_a (xy_a (xy_a (xy_a A 61 t_kindLetters) 65 t_kindMay) 62 t_kindNames) 63 t_kindParts) 64 t_kindSorts) 60 t_kinds) 58 t_text) L (xy_s (xy_s (xy_s (xy_s S 57 18 t_at) 57 19 t_fault) 57 20 t_from) 57 1 t_size)) (.inl none, xw_W (xy_a (xy_a (xy_a (xy_a (xy_a (xy_a (xy_a A 61 r.2.2.2.2.1) 65 r.2.2.2.2.2.1) 62 r.2.2.2.2.2.2.1) 63 r.2.2.2.2.2.2.2.1) 64 r.2.2.2.2.2.2.2.2.1) 60 r.2.2.2.2.2.2.2.2.2) 58 t_text) L (xy_s (xy_s (xy_s (xy_s S 57 18 r.2.1) 57 19 r.2.2.1) 57 20 r.2.2.2.1) 57 1 t_size)) := by
  intro N
  induction N with
  | zero => intro t_at t_fault t_from t_kindLetters t_kindMay t_kindNames t_kindParts t_kindSorts t_kinds v1 v2 v3 v4 r h; cases h
  | succ N hk126 =>
    intro t_at t_fault t_from t_kindLetters t_kindMay t_kindNames t_kindParts t_kindSorts t_kinds v1 v2 v3 v4 r h
    refine xe_seg ok 2 (G := (fun K => if v3 = (0 : Int32) then K (48, xm_i48, xm_I48, 0, 0, 265, [(0, .ref 59), (1, .int v1), (2, .int v2), (3, .int v3), (4, .int v4)], [], xw_W (xy_a (xy_a (xy_a (xy_a (xy_a (xy_a (xy_a A 61 t_kindLetters) 65 t_kindMay) 62 t_kindNames) 63 t_kindParts) 64 t_kindSorts) 60 t_kinds) 58 t_text) L (xy_s (xy_s (xy_s (xy_s S 57 18 t_at) 57 19 t_fault) 57 20 t_from) 57 1 t_size)) else K (48, xm_i48, xm_I48, 0, 0, 130, [(0, .ref 59), (1, .int v1), (2, .int v2), (3, .int v3), (4, .int v4)], [], xw_W (xy_a (xy_a (xy_a (xy_a (xy_a (xy_a (xy_a A 61 t_kindLetters) 65 t_kindMay) 62 t_kindNames) 63 t_kindParts) 64 t_kindSorts) 60 t_kinds) 58 t_text) L (xy_s (xy_s (xy_s (xy_s S 57 18 t_at) 57 19 t_fault) 57 20 t_from) 57 1 t_size)))) (fun K => rfl) ?_
    rcases xb_if h with ⟨hc667, h⟩ | ⟨hc667, h⟩
    · refine xe_pos hc667 (xe_k ?_)
      refine xe_sub [true, true, true, false, false] (lv' := [(0, .ref 59), (1, .int v1), (2, .int v2)]) rfl ?_
      exact xh_rf_kind_57_265 ok A L S t_size t_text n t_at t_fault t_from t_kindLetters t_kindMay t_kindNames t_kindParts t_kindSorts t_kinds v1 v2 _ h
    · refine xe_neg hc667 (xe_k ?_)
      refine xe_seg ok 4 (G := (fun K => if t_fault = ((-1 : Int32)) then K (48, xm_i48, xm_I48, 0, 0, 138, [(0, .ref 59), (1, .int v1), (2, .int v2), (3, .int v3), (4, .int v4)], [], xw_W (xy_a (xy_a (xy_a (xy_a (xy_a (xy_a (xy_a A 61 t_kindLetters) 65 t_kindMay) 62 t_kindNames) 63 t_kindParts) 64 t_kindSorts) 60 t_kinds) 58 t_text) L (xy_s (xy_s (xy_s (xy_s S 57 18 t_at) 57 19 t_fault) 57 20 t_from) 57 1 t_size)) else K (48, xm_i48, xm_I48, 0, 0, 265, [(0, .ref 59), (1, .int v1), (2, .int v2), (3, .int v3), (4, .int v4)], [], xw_W (xy_a (xy_a (xy_a (xy_a (xy_a (xy_a (xy_a A 61 t_kindLetters) 65 t_kindMay) 62 t_kindNames) 63 t_kindParts) 64 t_kindSorts) 60 t_kinds) 58 t_text) L (xy_s (xy_s (xy_s (xy_s S 57 18 t_at) 57 19 t_fault) 57 20 t_from) 57 1 t_size)))) (fun K => rfl) ?_
      rcases xb_if h with ⟨hc671, h⟩ | ⟨hc671, h⟩
      · refine xe_pos hc671 (xe_k ?_)
        refine xe_seg ok 2 (G := (fun K => xr_back K 48 xm_i48 xm_I48 0 0 139 [(0, .ref 59), (1, .int v1), (2, .int v2), (3, .int v3), (4, .int v4)] [] 78 true (K (36, xm_i36, xm_I36, 0, 0, 0, [(0, .ref 59)], [], xw_W (xy_a (xy_a (xy_a (xy_a (xy_a (xy_a (xy_a A 61 t_kindLetters) 65 t_kindMay) 62 t_kindNames) 63 t_kindParts) 64 t_kindSorts) 60 t_kinds) 58 t_text) L (xy_s (xy_s (xy_s (xy_s S 57 18 t_at) 57 19 t_fault) 57 20 t_from) 57 1 t_size))))) (fun K => rfl) ?_
        obtain ⟨q672, hq672, h⟩ := Option.bind_eq_some_iff.mp h
        have heq672 := xh_rf_peek_57 (l := l) (g := g) ok (xy_a (xy_a (xy_a (xy_a (xy_a (xy_a (xy_a A 61 t_kindLetters) 65 t_kindMay) 62 t_kindNames) 63 t_kindParts) 64 t_kindSorts) 60 t_kinds) 58 t_text) L (xy_s (xy_s (xy_s (xy_s S 57 18 t_at) 57 19 t_fault) 57 20 t_from) 57 1 t_size) t_size t_text n t_at _ hq672
        refine xe_call1 (ws' := xw_W (xy_a (xy_a (xy_a (xy_a (xy_a (xy_a (xy_a A 61 t_kindLetters) 65 t_kindMay) 62 t_kindNames) 63 t_kindParts) 64 t_kindSorts) 60 t_kinds) 58 t_text) L (xy_s (xy_s (xy_s (xy_s S 57 18 q672.2) 57 19 t_fault) 57 20 t_from) 57 1 t_size)) (by decide) heq672 (Or.inl rfl) ?_
        refine xe_seg ok 3 (G := (fun K => if (0 : Int32) < v2 then K (48, xm_i48, xm_I48, 0, 0, 148, [(0, .ref 59), (1, .int v1), (2, .int v2), (3, .int v3), (4, .int v4), (5, .int q672.1)], [], xw_W (xy_a (xy_a (xy_a (xy_a (xy_a (xy_a (xy_a A 61 t_kindLetters) 65 t_kindMay) 62 t_kindNames) 63 t_kindParts) 64 t_kindSorts) 60 t_kinds) 58 t_text) L (xy_s (xy_s (xy_s (xy_s S 57 18 q672.2) 57 19 t_fault) 57 20 t_from) 57 1 t_size)) else K (48, xm_i48, xm_I48, 0, 0, 160, [(0, .ref 59), (1, .int v1), (2, .int v2), (3, .int v3), (4, .int v4), (5, .int q672.1)], [], xw_W (xy_a (xy_a (xy_a (xy_a (xy_a (xy_a (xy_a A 61 t_kindLetters) 65 t_kindMay) 62 t_kindNames) 63 t_kindParts) 64 t_kindSorts) 60 t_kinds) 58 t_text) L (xy_s (xy_s (xy_s (xy_s S 57 18 q672.2) 57 19 t_fault) 57 20 t_from) 57 1 t_size)))) (fun K => rfl) ?_
        rcases xb_if h with ⟨hc673, h⟩ | ⟨hc673, h⟩
        · refine xe_pos hc673 (xe_k ?_)
          refine xe_seg ok 3 (G := (fun K => if q672.1 = ((59 : Int32)) then K (48, xm_i48, xm_I48, 0, 0, 155, [(0, .ref 59), (1, .int v1), (2, .int v2), (3, .int v3), (4, .int v4), (5, .int q672.1)], [], xw_W (xy_a (xy_a (xy_a (xy_a (xy_a (xy_a (xy_a A 61 t_kindLetters) 65 t_kindMay) 62 t_kindNames) 63 t_kindParts) 64 t_kindSorts) 60 t_kinds) 58 t_text) L (xy_s (xy_s (xy_s (xy_s S 57 18 q672.2) 57 19 t_fault) 57 20 t_from) 57 1 t_size)) else K (48, xm_i48, xm_I48, 0, 0, 160, [(0, .ref 59), (1, .int v1), (2, .int v2), (3, .int v3), (4, .int v4), (5, .int q672.1)], [], xw_W (xy_a (xy_a (xy_a (xy_a (xy_a (xy_a (xy_a A 61 t_kindLetters) 65 t_kindMay) 62 t_kindNames) 63 t_kindParts) 64 t_kindSorts) 60 t_kinds) 58 t_text) L (xy_s (xy_s (xy_s (xy_s S 57 18 q672.2) 57 19 t_fault) 57 20 t_from) 57 1 t_size)))) (fun K => rfl) ?_
          rcases xb_if h with ⟨hc674, h⟩ | ⟨hc674, h⟩
          · refine xe_pos hc674 (xe_k ?_)
            refine xe_seg ok 3 (G := (fun K => K (48, xm_i48, xm_I48, 0, 0, 252, [(0, .ref 59), (1, .int v1), (2, .int v2), (3, .int ((0 : Int32))), (4, .int v4), (5, .int q672.1)], [], xw_W (xy_a (xy_a (xy_a (xy_a (xy_a (xy_a (xy_a A 61 t_kindLetters) 65 t_kindMay) 62 t_kindNames) 63 t_kindParts) 64 t_kindSorts) 60 t_kinds) 58 t_text) L (xy_s (xy_s (xy_s (xy_s S 57 18 q672.2) 57 19 t_fault) 57 20 t_from) 57 1 t_size)))) (fun K => rfl) ?_
            refine xe_k ?_
            refine xe_sub [true, true, true, true, true, false] (lv' := [(0, .ref 59), (1, .int v1), (2, .int v2), (3, .int ((0 : Int32))), (4, .int v4)]) rfl ?_
            exact xh_rf_kind_57_252 ok A L S t_size t_text hk126 n q672.2 t_fault t_from t_kindLetters t_kindMay t_kindNames t_kindParts t_kindSorts t_kinds v1 v2 ((0 : Int32)) v4 _ h
          · refine xe_neg hc674 (xe_k ?_)
            refine xe_sub [true, true, true, true, true, true] (lv' := [(0, .ref 59), (1, .int v1), (2, .int v2), (3, .int v3), (4, .int v4), (5, .int q672.1)]) rfl ?_
            exact xh_rf_kind_57_160 ok A L S t_size t_text hk126 n q672.2 t_fault t_from t_kindLetters t_kindMay t_kindNames t_kindParts t_kindSorts t_kinds v1 v2 v3 v4 q672.1 _ h
        · refine xe_neg hc673 (xe_k ?_)
          refine xe_sub [true, true, true, true, true, true] (lv' := [(0, .ref 59), (1, .int v1), (2, .int v2), (3, .int v3), (4, .int v4), (5, .int q672.1)]) rfl ?_
          exact xh_rf_kind_57_160 ok A L S t_size t_text hk126 n q672.2 t_fault t_from t_kindLetters t_kindMay t_kindNames t_kindParts t_kindSorts t_kinds v1 v2 v3 v4 q672.1 _ h
      · refine xe_neg hc671 (xe_k ?_)
        refine xe_sub [true, true, true, false, false] (lv' := [(0, .ref 59), (1, .int v1), (2, .int v2)]) rfl ?_
        exact xh_rf_kind_57_265 ok A L S t_size t_text n t_at t_fault t_from t_kindLetters t_kindMay t_kindNames t_kindParts t_kindSorts t_kinds v1 v2 _ h
