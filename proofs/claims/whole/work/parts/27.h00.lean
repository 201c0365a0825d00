theorem xh_pg_signAt_1_22 {l : Launch} {g : xr_G} (ok : xr_OK xm_P) (A : Nat → Nat → Int32) (L : Nat → Nat → Int64) (S : Nat → Nat → Int32) (t_length : Int32) (t_signs : (Nat → Int32)) : ∀ (s0 : Int32) (r : (Int32)), xf_pg_signAt_22 t_length t_signs s0 = some r → xV xm_P l g (144, xm_i144, xm_I144, 0, 0, 22, [], [.int s0], xw_W (xy_a A 2 t_signs) L (xy_s S 1 1 t_length)) (.inl (some (.int r)), xw_W (xy_a A 2 t_signs) L (xy_s S 1 1 t_length)) := by
  intro s0 r h
  unfold xf_pg_signAt_22 at h
  refine xe_seg ok 1 (G := (fun _ => if fits .char (.int s0) = true then some (.inl (some (.int s0)), xw_W (xy_a A 2 t_signs) L (xy_s S 1 1 t_length)) else none)) (fun K => rfl) ?_
  obtain ⟨hg4, h⟩ := xn_if h
  obtain rfl := Option.some.inj h
  exact xe_pos (A := fun _ => some (.inl (some (.int s0)), xw_W (xy_a A 2 t_signs) L (xy_s S 1 1 t_length))) (B := fun _ => none) hg4 xe_ret
theorem xh_pg_signAt_1_21 {l : Launch} {g : xr_G} (ok : xr_OK xm_P) (A : Nat → Nat → Int32) (L : Nat → Nat → Int64) (S : Nat → Nat → Int32) (t_length : Int32) (t_signs : (Nat → Int32)) : ∀  (r : (Int32)), xf_pg_signAt_21 t_length t_signs  = some r → xV xm_P l g (144, xm_i144, xm_I144, 0, 0, 21, [], [], xw_W (xy_a A 2 t_signs) L (xy_s S 1 1 t_length)) (.inl (some (.int r)), xw_W (xy_a A 2 t_signs) L (xy_s S 1 1 t_length)) := by
  intro  r h
  unfold xf_pg_signAt_21 at h
  refine xe_seg ok 1 (G := (fun K => K (144, xm_i144, xm_I144, 0, 0, 22, [], [.int ((0 : Int32))], xw_W (xy_a A 2 t_signs) L (xy_s S 1 1 t_length)))) (fun K => rfl) ?_
  refine xe_k ?_
  refine xe_sub [] (lv' := []) rfl ?_
  exact xh_pg_signAt_1_22 ok A L S t_length t_signs ((0 : Int32)) _ h
theorem xh_pg_signAt_1 {l : Launch} {g : xr_G} (ok : xr_OK xm_P) (A : Nat → Nat → Int32) (L : Nat → Nat → Int64) (S : Nat → Nat → Int32) (t_length : Int32) (t_signs : (Nat → Int32)) : ∀ (a1 : Int32) (r : (Int32)), xf_pg_signAt t_length t_signs a1 = some r → xV xm_P l g (144, xm_i144, xm_I144, 0, 0, 0, [(0, .ref 3), (1, .int a1)], [], xw_W (xy_a A 2 t_signs) L (xy_s S 1 1 t_length)) (.inl (some (.int r)), xw_W (xy_a A 2 t_signs) L (xy_s S 1 1 t_length)) := by
  intro a1 r h
  unfold xf_pg_signAt at h
  refine xe_seg ok 2 (G := (fun K => if a1 < (0 : Int32) then K (144, xm_i144, xm_I144, 0, 0, 21, [(0, .ref 3), (1, .int a1)], [], xw_W (xy_a A 2 t_signs) L (xy_s S 1 1 t_length)) else K (144, xm_i144, xm_I144, 0, 0, 4, [(0, .ref 3), (1, .int a1)], [], xw_W (xy_a A 2 t_signs) L (xy_s S 1 1 t_length)))) (fun K => rfl) ?_
  rcases xb_if h with ⟨hc3, h⟩ | ⟨hc3, h⟩
  · refine xe_pos hc3 (xe_k ?_)
    refine xe_sub [false, false] (lv' := []) rfl ?_
    exact xh_pg_signAt_1_21 ok A L S t_length t_signs _ h
  · refine xe_neg hc3 (xe_k ?_)
    refine xe_seg ok 4 (G := (fun K => if a1 < t_length then K (144, xm_i144, xm_I144, 0, 0, 12, [(0, .ref 3), (1, .int a1)], [], xw_W (xy_a A 2 t_signs) L (xy_s S 1 1 t_length)) else K (144, xm_i144, xm_I144, 0, 0, 21, [(0, .ref 3), (1, .int a1)], [], xw_W (xy_a A 2 t_signs) L (xy_s S 1 1 t_length)))) (fun K => rfl) ?_
    rcases xb_if h with ⟨hc5, h⟩ | ⟨hc5, h⟩
    · refine xe_pos hc5 (xe_k ?_)
      refine xe_seg ok 4 (G := (fun K => if xr_in a1 1200 = true then K (144, xm_i144, xm_I144, 0, 0, 18, [(0, .ref 3), (1, .int a1)], [.int (t_signs a1.toNatClampNeg)], xw_W (xy_a A 2 t_signs) L (xy_s S 1 1 t_length)) else none)) (fun K => rfl) ?_
      obtain ⟨hg6, h⟩ := xn_if h
      refine xe_pos hg6 (xe_k ?_)
      refine xe_seg ok 1 (G := (fun K => K (144, xm_i144, xm_I144, 0, 0, 22, [(0, .ref 3), (1, .int a1)], [.int (t_signs a1.toNatClampNeg)], xw_W (xy_a A 2 t_signs) L (xy_s S 1 1 t_length)))) (fun K => rfl) ?_
      refine xe_k ?_
      refine xe_sub [false, false] (lv' := []) rfl ?_
      exact xh_pg_signAt_1_22 ok A L S t_length t_signs (t_signs a1.toNatClampNeg) _ h
    · refine xe_neg hc5 (xe_k ?_)
      refine xe_sub [false, false] (lv' := []) rfl ?_
      exact xh_pg_signAt_1_21 ok A L S t_length t_signs _ h
theorem xh_wd_textEndFrom_50_50 {l : Launch} {g : xr_G} (ok : xr_OK xm_P) (A : Nat → Nat → Int32) (L : Nat → Nat → Int64) (S : Nat → Nat → Int32) (t_page_length : Int32) (t_page_signs : (Nat → Int32)) {k4 : Int32 → Option (Int32)} (hk4 : ∀ (v2 : Int32) (r : (Int32)), k4 v2 = some r → xV xm_P l g (152, xm_i152, xm_I152, 0, 0, 4, [(0, .ref 52), (2, .int v2)], [], xw_W (xy_a A 2 t_page_signs) L (xy_s S 1 1 t_page_length)) (.inl (some (.int r)), xw_W (xy_a A 2 t_page_signs) L (xy_s S 1 1 t_page_length))) (n : Nat) : ∀ (v2 : Int32) (r : (Int32)), xf_wd_textEndFrom_50 t_page_length t_page_signs k4 n v2 = some r → xV xm_P l g (152, xm_i152, xm_I152, 0, 0, 50, [(0, .ref 52), (2, .int v2)], [], xw_W (xy_a A 2 t_page_signs) L (xy_s S 1 1 t_page_length)) (.inl (some (.int r)), xw_W (xy_a A 2 t_page_signs) L (xy_s S 1 1 t_page_length)) := by
  intro v2 r h
  unfold xf_wd_textEndFrom_50 at h
  refine xe_seg ok 2 (G := (fun K => K (152, xm_i152, xm_I152, 0, 0, 4, [(0, .ref 52), (2, .int (v2 + (1 : Int32)))], [], xw_W (xy_a A 2 t_page_signs) L (xy_s S 1 1 t_page_length)))) (fun K => rfl) ?_
  refine xe_k ?_
  refine xe_sub [true, true] (lv' := [(0, .ref 52), (2, .int (v2 + (1 : Int32)))]) rfl ?_
  exact hk4 (v2 + (1 : Int32)) _ h
theorem xh_wd_textEndFrom_50_4 {l : Launch} {g : xr_G} (ok : xr_OK xm_P) (A : Nat → Nat → Int32) (L : Nat → Nat → Int64) (S : Nat → Nat → Int32) (t_page_length : Int32) (t_page_signs : (Nat → Int32)) (n : Nat) : ∀ (N : Nat) (v2 : Int32) (r : (Int32)), xf_wd_textEndFrom_4 t_page_length t_page_signs n N v2 = some r → xV xm_P l g (152, xm_i152, xm_I152, 0, 0, 4, [(0, .ref 52), (2, .int v2)], [], xw_W (xy_a A 2 t_page_signs) L (xy_s S 1 1 t_page_length)) (.inl (some (.int r)), xw_W (xy_a A 2 t_page_signs) L (xy_s S 1 1 t_page_length)) := by
  intro N
  induction N with
  | zero => intro v2 r h; cases h
  | succ N hk4 =>
    intro v2 r h
    refine xe_seg ok 5 (G := (fun K => if v2 < t_page_length then K (152, xm_i152, xm_I152, 0, 0, 15, [(0, .ref 52), (2, .int v2)], [], xw_W (xy_a A 2 t_page_signs) L (xy_s S 1 1 t_page_length)) else K (152, xm_i152, xm_I152, 0, 0, 56, [(0, .ref 52), (2, .int v2)], [], xw_W (xy_a A 2 t_page_signs) L (xy_s S 1 1 t_page_length)))) (fun K => rfl) ?_
    rcases xb_if h with ⟨hc10, h⟩ | ⟨hc10, h⟩
    · refine xe_pos hc10 (xe_k ?_)
      refine xe_seg ok 4 (G := (fun K => xr_back K 152 xm_i152 xm_I152 0 0 20 [(0, .ref 52), (2, .int v2)] [] 78 true (K (144, xm_i144, xm_I144, 0, 0, 0, [(0, .ref 3), (1, .int v2)], [], xw_W (xy_a A 2 t_page_signs) L (xy_s S 1 1 t_page_length))))) (fun K => rfl) ?_
      obtain ⟨q11, hq11, h⟩ := Option.bind_eq_some_iff.mp h
      have heq11 := xh_pg_signAt_1 (l := l) (g := g) ok (xy_a A 2 t_page_signs) L (xy_s S 1 1 t_page_length) t_page_length t_page_signs v2 _ hq11
      refine xe_call1 (ws' := xw_W (xy_a A 2 t_page_signs) L (xy_s S 1 1 t_page_length)) (by decide) heq11 (Or.inl rfl) ?_
      refine xe_seg ok 2 (G := (fun K => if q11 = ((39 : Int32)) then K (152, xm_i152, xm_I152, 0, 0, 28, [(0, .ref 52), (2, .int v2)], [], xw_W (xy_a A 2 t_page_signs) L (xy_s S 1 1 t_page_length)) else K (152, xm_i152, xm_I152, 0, 0, 50, [(0, .ref 52), (2, .int v2)], [], xw_W (xy_a A 2 t_page_signs) L (xy_s S 1 1 t_page_length)))) (fun K => rfl) ?_
      rcases xb_if h with ⟨hc12, h⟩ | ⟨hc12, h⟩
      · refine xe_pos hc12 (xe_k ?_)
        refine xe_seg ok 6 (G := (fun K => xr_back K 152 xm_i152 xm_I152 0 0 35 [(0, .ref 52), (2, .int v2)] [] 78 true (K (144, xm_i144, xm_I144, 0, 0, 0, [(0, .ref 3), (1, .int (v2 + ((1 : Int32))))], [], xw_W (xy_a A 2 t_page_signs) L (xy_s S 1 1 t_page_length))))) (fun K => rfl) ?_
        obtain ⟨q13, hq13, h⟩ := Option.bind_eq_some_iff.mp h
        have heq13 := xh_pg_signAt_1 (l := l) (g := g) ok (xy_a A 2 t_page_signs) L (xy_s S 1 1 t_page_length) t_page_length t_page_signs (v2 + ((1 : Int32))) _ hq13
        refine xe_call1 (ws' := xw_W (xy_a A 2 t_page_signs) L (xy_s S 1 1 t_page_length)) (by decide) heq13 (Or.inl rfl) ?_
        refine xe_seg ok 2 (G := (fun K => if q13 = ((39 : Int32)) then K (152, xm_i152, xm_I152, 0, 0, 47, [(0, .ref 52), (2, .int v2)], [], xw_W (xy_a A 2 t_page_signs) L (xy_s S 1 1 t_page_length)) else K (152, xm_i152, xm_I152, 0, 0, 43, [(0, .ref 52), (2, .int v2)], [], xw_W (xy_a A 2 t_page_signs) L (xy_s S 1 1 t_page_length)))) (fun K => rfl) ?_
        rcases xb_if h with ⟨hc14, h⟩ | ⟨hc14, h⟩
        · refine xe_pos hc14 (xe_k ?_)
          refine xe_seg ok 1 (G := (fun K => K (152, xm_i152, xm_I152, 0, 0, 50, [(0, .ref 52), (2, .int (v2 + (1 : Int32)))], [], xw_W (xy_a A 2 t_page_signs) L (xy_s S 1 1 t_page_length)))) (fun K => rfl) ?_
          refine xe_k ?_
          refine xe_sub [true, true] (lv' := [(0, .ref 52), (2, .int (v2 + (1 : Int32)))]) rfl ?_
          exact xh_wd_textEndFrom_50_50 ok A L S t_page_length t_page_signs hk4 n (v2 + (1 : Int32)) _ h
        · refine xe_neg hc14 (xe_k ?_)
          obtain rfl := Option.some.inj h
          refine xe_seg ok 4 (G := (fun _ => some (.inl (some (.int (v2 + ((1 : Int32))))), xw_W (xy_a A 2 t_page_signs) L (xy_s S 1 1 t_page_length)))) (fun K => rfl) ?_
          exact xe_ret
      · refine xe_neg hc12 (xe_k ?_)
        refine xe_sub [true, true] (lv' := [(0, .ref 52), (2, .int v2)]) rfl ?_
        exact xh_wd_textEndFrom_50_50 ok A L S t_page_length t_page_signs hk4 n v2 _ h
    · refine xe_neg hc10 (xe_k ?_)
      obtain rfl := Option.some.inj h
      refine xe_seg ok 2 (G := (fun _ => some (.inl (some (.int ((-1 : Int32)))), xw_W (xy_a A 2 t_page_signs) L (xy_s S 1 1 t_page_length)))) (fun K => rfl) ?_
      exact xe_ret
theorem xh_wd_textEndFrom_50 {l : Launch} {g : xr_G} (ok : xr_OK xm_P) (A : Nat → Nat → Int32) (L : Nat → Nat → Int64) (S : Nat → Nat → Int32) (t_page_length : Int32) (t_page_signs : (Nat → Int32)) (n : Nat) : ∀ (a1 : Int32) (r : (Int32)), xf_wd_textEndFrom t_page_length t_page_signs n a1 = some r → xV xm_P l g (152, xm_i152, xm_I152, 0, 0, 0, [(0, .ref 52), (1, .int a1)], [], xw_W (xy_a A 2 t_page_signs) L (xy_s S 1 1 t_page_length)) (.inl (some (.int r)), xw_W (xy_a A 2 t_page_signs) L (xy_s S 1 1 t_page_length)) := by
  intro a1 r h
  unfold xf_wd_textEndFrom at h
  refine xe_seg ok 4 (G := (fun K => K (152, xm_i152, xm_I152, 0, 0, 4, [(0, .ref 52), (1, .int a1), (2, .int (a1 + ((1 : Int32))))], [], xw_W (xy_a A 2 t_page_signs) L (xy_s S 1 1 t_page_length)))) (fun K => rfl) ?_
  refine xe_k ?_
  refine xe_sub [true, false, true] (lv' := [(0, .ref 52), (2, .int (a1 + ((1 : Int32))))]) rfl ?_
  exact xh_wd_textEndFrom_50_4 ok A L S t_page_length t_page_signs n n (a1 + ((1 : Int32))) _ h
theorem xh_xt_isDigit_17 {l : Launch} {g : xr_G} (ok : xr_OK xm_P) (A : Nat → Nat → Int32) (L : Nat → Nat → Int64) (S : Nat → Nat → Int32) : ∀ (s0 : Int32) (r : (Int32)), xf_xt_isDigit_17  s0 = some r → xV xm_P l g (28, xm_i28, xm_I28, 0, 0, 17, [], [.int s0], xw_W A L S) (.inl (some (.int r)), xw_W A L S) := by
  intro s0 r h
  unfold xf_xt_isDigit_17 at h
  refine xe_seg ok 1 (G := (fun _ => if fits .boolean (.int s0) = true then some (.inl (some (.int s0)), xw_W A L S) else none)) (fun K => rfl) ?_
  obtain ⟨hg17, h⟩ := xn_if h
  obtain rfl := Option.some.inj h
  exact xe_pos (A := fun _ => some (.inl (some (.int s0)), xw_W A L S)) (B := fun _ => none) hg17 xe_ret
theorem xh_xt_isDigit_16 {l : Launch} {g : xr_G} (ok : xr_OK xm_P) (A : Nat → Nat → Int32) (L : Nat → Nat → Int64) (S : Nat → Nat → Int32) : ∀  (r : (Int32)), xf_xt_isDigit_16   = some r → xV xm_P l g (28, xm_i28, xm_I28, 0, 0, 16, [], [], xw_W A L S) (.inl (some (.int r)), xw_W A L S) := by
  intro  r h
  unfold xf_xt_isDigit_16 at h
  refine xe_seg ok 1 (G := (fun K => K (28, xm_i28, xm_I28, 0, 0, 17, [], [.int ((0 : Int32))], xw_W A L S))) (fun K => rfl) ?_
  refine xe_k ?_
  refine xe_sub [] (lv' := []) rfl ?_
  exact xh_xt_isDigit_17 ok A L S ((0 : Int32)) _ h
theorem xh_xt_isDigit {l : Launch} {g : xr_G} (ok : xr_OK xm_P) (A : Nat → Nat → Int32) (L : Nat → Nat → Int64) (S : Nat → Nat → Int32) : ∀ (a1 : Int32) (r : (Int32)), xf_xt_isDigit  a1 = some r → xV xm_P l g (28, xm_i28, xm_I28, 0, 0, 0, [(0, .int a1)], [], xw_W A L S) (.inl (some (.int r)), xw_W A L S) := by
  intro a1 r h
  unfold xf_xt_isDigit at h
  refine xe_seg ok 3 (G := (fun K => if a1 < ((48 : Int32)) then K (28, xm_i28, xm_I28, 0, 0, 16, [(0, .int a1)], [], xw_W A L S) else K (28, xm_i28, xm_I28, 0, 0, 6, [(0, .int a1)], [], xw_W A L S))) (fun K => rfl) ?_
  rcases xb_if h with ⟨hc16, h⟩ | ⟨hc16, h⟩
  · refine xe_pos hc16 (xe_k ?_)
    refine xe_sub [false] (lv' := []) rfl ?_
    exact xh_xt_isDigit_16 ok A L S  _ h
  · refine xe_neg hc16 (xe_k ?_)
    refine xe_seg ok 3 (G := (fun K => if ((57 : Int32)) < a1 then K (28, xm_i28, xm_I28, 0, 0, 16, [(0, .int a1)], [], xw_W A L S) else K (28, xm_i28, xm_I28, 0, 0, 12, [(0, .int a1)], [], xw_W A L S))) (fun K => rfl) ?_
    rcases xb_if h with ⟨hc18, h⟩ | ⟨hc18, h⟩
    · refine xe_pos hc18 (xe_k ?_)
      refine xe_sub [false] (lv' := []) rfl ?_
      exact xh_xt_isDigit_16 ok A L S  _ h
    · refine xe_neg hc18 (xe_k ?_)
      refine xe_seg ok 2 (G := (fun K => K (28, xm_i28, xm_I28, 0, 0, 17, [(0, .int a1)], [.int ((1 : Int32))], xw_W A L S))) (fun K => rfl) ?_
      refine xe_k ?_
      refine xe_sub [false] (lv' := []) rfl ?_
      exact xh_xt_isDigit_17 ok A L S ((1 : Int32)) _ h
theorem xh_xt_isLetter_17 {l : Launch} {g : xr_G} (ok : xr_OK xm_P) (A : Nat → Nat → Int32) (L : Nat → Nat → Int64) (S : Nat → Nat → Int32) : ∀ (s0 : Int32) (r : (Int32)), xf_xt_isLetter_17  s0 = some r → xV xm_P l g (29, xm_i29, xm_I29, 0, 0, 17, [], [.int s0], xw_W A L S) (.inl (some (.int r)), xw_W A L S) := by
  intro s0 r h
  unfold xf_xt_isLetter_17 at h
  refine xe_seg ok 1 (G := (fun _ => if fits .boolean (.int s0) = true then some (.inl (some (.int s0)), xw_W A L S) else none)) (fun K => rfl) ?_
  obtain ⟨hg22, h⟩ := xn_if h
  obtain rfl := Option.some.inj h
  exact xe_pos (A := fun _ => some (.inl (some (.int s0)), xw_W A L S)) (B := fun _ => none) hg22 xe_ret
theorem xh_xt_isLetter_16 {l : Launch} {g : xr_G} (ok : xr_OK xm_P) (A : Nat → Nat → Int32) (L : Nat → Nat → Int64) (S : Nat → Nat → Int32) : ∀  (r : (Int32)), xf_xt_isLetter_16   = some r → xV xm_P l g (29, xm_i29, xm_I29, 0, 0, 16, [], [], xw_W A L S) (.inl (some (.int r)), xw_W A L S) := by
  intro  r h
  unfold xf_xt_isLetter_16 at h
  refine xe_seg ok 1 (G := (fun K => K (29, xm_i29, xm_I29, 0, 0, 17, [], [.int ((0 : Int32))], xw_W A L S))) (fun K => rfl) ?_
  refine xe_k ?_
  refine xe_sub [] (lv' := []) rfl ?_
  exact xh_xt_isLetter_17 ok A L S ((0 : Int32)) _ h
theorem xh_xt_isLetter {l : Launch} {g : xr_G} (ok : xr_OK xm_P) (A : Nat → Nat → Int32) (L : Nat → Nat → Int64) (S : Nat → Nat → Int32) : ∀ (a1 : Int32) (r : (Int32)), xf_xt_isLetter  a1 = some r → xV xm_P l g (29, xm_i29, xm_I29, 0, 0, 0, [(0, .int a1)], [], xw_W A L S) (.inl (some (.int r)), xw_W A L S) := by
  intro a1 r h
  unfold xf_xt_isLetter at h
  refine xe_seg ok 3 (G := (fun K => if a1 < ((65 : Int32)) then K (29, xm_i29, xm_I29, 0, 0, 16, [(0, .int a1)], [], xw_W A L S) else K (29, xm_i29, xm_I29, 0, 0, 6, [(0, .int a1)], [], xw_W A L S))) (fun K => rfl) ?_
  rcases xb_if h with ⟨hc21, h⟩ | ⟨hc21, h⟩
  · refine xe_pos hc21 (xe_k ?_)
    refine xe_sub [false] (lv' := []) rfl ?_
    exact xh_xt_isLetter_16 ok A L S  _ h
  · refine xe_neg hc21 (xe_k ?_)
    refine xe_seg ok 3 (G := (fun K => if ((90 : Int32)) < a1 then K (29, xm_i29, xm_I29, 0, 0, 16, [(0, .int a1)], [], xw_W A L S) else K (29, xm_i29, xm_I29, 0, 0, 12, [(0, .int a1)], [], xw_W A L S))) (fun K => rfl) ?_
    rcases xb_if h with ⟨hc23, h⟩ | ⟨hc23, h⟩
    · refine xe_pos hc23 (xe_k ?_)
      refine xe_sub [false] (lv' := []) rfl ?_
      exact xh_xt_isLetter_16 ok A L S  _ h
    · refine xe_neg hc23 (xe_k ?_)
      refine xe_seg ok 2 (G := (fun K => K (29, xm_i29, xm_I29, 0, 0, 17, [(0, .int a1)], [.int ((1 : Int32))], xw_W A L S))) (fun K => rfl) ?_
      refine xe_k ?_
      refine xe_sub [false] (lv' := []) rfl ?_
      exact xh_xt_isLetter_17 ok A L S ((1 : Int32)) _ h
theorem xh_wd_endFrom_50_92 {l : Launch} {g : xr_G} (ok : xr_OK xm_P) (A : Nat → Nat → Int32) (L : Nat → Nat → Int64) (S : Nat → Nat → Int32) (t_page_length : Int32) (t_page_signs : (Nat → Int32)) (n : Nat) : ∀ (v3 : Int32) (r : (Int32)), xf_wd_endFrom_92 t_page_length t_page_signs n v3 = some r → xV xm_P l g (151, xm_i151, xm_I151, 0, 0, 92, [(3, .int v3)], [], xw_W (xy_a A 2 t_page_signs) L (xy_s S 1 1 t_page_length)) (.inl (some (.int r)), xw_W (xy_a A 2 t_page_signs) L (xy_s S 1 1 t_page_length)) := by
  intro v3 r h
  unfold xf_wd_endFrom_92 at h
  obtain rfl := Option.some.inj h
  refine xe_seg ok 2 (G := (fun _ => some (.inl (some (.int v3)), xw_W (xy_a A 2 t_page_signs) L (xy_s S 1 1 t_page_length)))) (fun K => rfl) ?_
  exact xe_ret
theorem xh_wd_endFrom_50_61 {l : Launch} {g : xr_G} (ok : xr_OK xm_P) (A : Nat → Nat → Int32) (L : Nat → Nat → Int64) (S : Nat → Nat → Int32) (t_page_length : Int32) (t_page_signs : (Nat → Int32)) (n : Nat) : ∀ (N : Nat) (v3 : Int32) (r : (Int32)), xf_wd_endFrom_61 t_page_length t_page_signs n N v3 = some r → xV xm_P l g (151, xm_i151, xm_I151, 0, 0, 61, [(0, .ref 52), (3, .int v3)], [], xw_W (xy_a A 2 t_page_signs) L (xy_s S 1 1 t_page_length)) (.inl (some (.int r)), xw_W (xy_a A 2 t_page_signs) L (xy_s S 1 1 t_page_length)) := by
  intro N
  induction N with
  | zero => intro v3 r h; cases h
  | succ N hk61 =>
    intro v3 r h
    refine xe_seg ok 5 (G := (fun K => if v3 < t_page_length then K (151, xm_i151, xm_I151, 0, 0, 72, [(0, .ref 52), (3, .int v3)], [], xw_W (xy_a A 2 t_page_signs) L (xy_s S 1 1 t_page_length)) else K (151, xm_i151, xm_I151, 0, 0, 92, [(0, .ref 52), (3, .int v3)], [], xw_W (xy_a A 2 t_page_signs) L (xy_s S 1 1 t_page_length)))) (fun K => rfl) ?_
    rcases xb_if h with ⟨hc26, h⟩ | ⟨hc26, h⟩
    · refine xe_pos hc26 (xe_k ?_)
      refine xe_seg ok 4 (G := (fun K => xr_back K 151 xm_i151 xm_I151 0 0 77 [(0, .ref 52), (3, .int v3)] [] 78 true (K (144, xm_i144, xm_I144, 0, 0, 0, [(0, .ref 3), (1, .int v3)], [], xw_W (xy_a A 2 t_page_signs) L (xy_s S 1 1 t_page_length))))) (fun K => rfl) ?_
      obtain ⟨q27, hq27, h⟩ := Option.bind_eq_some_iff.mp h
      have heq27 := xh_pg_signAt_1 (l := l) (g := g) ok (xy_a A 2 t_page_signs) L (xy_s S 1 1 t_page_length) t_page_length t_page_signs v3 _ hq27
      refine xe_call1 (ws' := xw_W (xy_a A 2 t_page_signs) L (xy_s S 1 1 t_page_length)) (by decide) heq27 (Or.inl rfl) ?_
      refine xe_seg ok 1 (G := (fun K => xr_back K 151 xm_i151 xm_I151 0 0 80 [(0, .ref 52), (3, .int v3)] [] 78 false (K (29, xm_i29, xm_I29, 0, 0, 0, [(0, .int q27)], [], xw_W (xy_a A 2 t_page_signs) L (xy_s S 1 1 t_page_length))))) (fun K => rfl) ?_
      obtain ⟨q28, hq28, h⟩ := Option.bind_eq_some_iff.mp h
      have heq28 := xh_xt_isLetter (l := l) (g := g) ok (xy_a A 2 t_page_signs) L (xy_s S 1 1 t_page_length) q27 _ hq28
      refine xe_call1 (ws' := xw_W (xy_a A 2 t_page_signs) L (xy_s S 1 1 t_page_length)) (by decide) heq28 (Or.inl rfl) ?_
      refine xe_seg ok 1 (G := (fun K => if q28 = (0 : Int32) then K (151, xm_i151, xm_I151, 0, 0, 92, [(0, .ref 52), (3, .int v3)], [], xw_W (xy_a A 2 t_page_signs) L (xy_s S 1 1 t_page_length)) else K (151, xm_i151, xm_I151, 0, 0, 86, [(0, .ref 52), (3, .int v3)], [], xw_W (xy_a A 2 t_page_signs) L (xy_s S 1 1 t_page_length)))) (fun K => rfl) ?_
      rcases xb_if h with ⟨hc29, h⟩ | ⟨hc29, h⟩
      · refine xe_pos hc29 (xe_k ?_)
        refine xe_sub [false, true] (lv' := [(3, .int v3)]) rfl ?_
        exact xh_wd_endFrom_50_92 ok A L S t_page_length t_page_signs n v3 _ h
      · refine xe_neg hc29 (xe_k ?_)
        refine xe_seg ok 2 (G := (fun K => K (151, xm_i151, xm_I151, 0, 0, 61, [(0, .ref 52), (3, .int (v3 + (1 : Int32)))], [], xw_W (xy_a A 2 t_page_signs) L (xy_s S 1 1 t_page_length)))) (fun K => rfl) ?_
        refine xe_k ?_
        refine xe_sub [true, true] (lv' := [(0, .ref 52), (3, .int (v3 + (1 : Int32)))]) rfl ?_
        exact hk61 (v3 + (1 : Int32)) _ h
    · refine xe_neg hc26 (xe_k ?_)
      refine xe_sub [false, true] (lv' := [(3, .int v3)]) rfl ?_
      exact xh_wd_endFrom_50_92 ok A L S t_page_length t_page_signs n v3 _ h
theorem xh_wd_endFrom_50_23 {l : Launch} {g : xr_G} (ok : xr_OK xm_P) (A : Nat → Nat → Int32) (L : Nat → Nat → Int64) (S : Nat → Nat → Int32) (t_page_length : Int32) (t_page_signs : (Nat → Int32)) (n : Nat) : ∀ (N : Nat) (v3 : Int32) (r : (Int32)), xf_wd_endFrom_23 t_page_length t_page_signs n N v3 = some r → xV xm_P l g (151, xm_i151, xm_I151, 0, 0, 23, [(0, .ref 52), (3, .int v3)], [], xw_W (xy_a A 2 t_page_signs) L (xy_s S 1 1 t_page_length)) (.inl (some (.int r)), xw_W (xy_a A 2 t_page_signs) L (xy_s S 1 1 t_page_length)) := by
  intro N
  induction N with
  | zero => intro v3 r h; cases h
  | succ N hk23 =>
    intro v3 r h
    refine xe_seg ok 5 (G := (fun K => if v3 < t_page_length then K (151, xm_i151, xm_I151, 0, 0, 34, [(0, .ref 52), (3, .int v3)], [], xw_W (xy_a A 2 t_page_signs) L (xy_s S 1 1 t_page_length)) else K (151, xm_i151, xm_I151, 0, 0, 92, [(0, .ref 52), (3, .int v3)], [], xw_W (xy_a A 2 t_page_signs) L (xy_s S 1 1 t_page_length)))) (fun K => rfl) ?_
    rcases xb_if h with ⟨hc30, h⟩ | ⟨hc30, h⟩
    · refine xe_pos hc30 (xe_k ?_)
      refine xe_seg ok 4 (G := (fun K => xr_back K 151 xm_i151 xm_I151 0 0 39 [(0, .ref 52), (3, .int v3)] [] 78 true (K (144, xm_i144, xm_I144, 0, 0, 0, [(0, .ref 3), (1, .int v3)], [], xw_W (xy_a A 2 t_page_signs) L (xy_s S 1 1 t_page_length))))) (fun K => rfl) ?_
      obtain ⟨q31, hq31, h⟩ := Option.bind_eq_some_iff.mp h
      have heq31 := xh_pg_signAt_1 (l := l) (g := g) ok (xy_a A 2 t_page_signs) L (xy_s S 1 1 t_page_length) t_page_length t_page_signs v3 _ hq31
      refine xe_call1 (ws' := xw_W (xy_a A 2 t_page_signs) L (xy_s S 1 1 t_page_length)) (by decide) heq31 (Or.inl rfl) ?_
      refine xe_seg ok 1 (G := (fun K => xr_back K 151 xm_i151 xm_I151 0 0 42 [(0, .ref 52), (3, .int v3)] [] 78 false (K (28, xm_i28, xm_I28, 0, 0, 0, [(0, .int q31)], [], xw_W (xy_a A 2 t_page_signs) L (xy_s S 1 1 t_page_length))))) (fun K => rfl) ?_
      obtain ⟨q32, hq32, h⟩ := Option.bind_eq_some_iff.mp h
      have heq32 := xh_xt_isDigit (l := l) (g := g) ok (xy_a A 2 t_page_signs) L (xy_s S 1 1 t_page_length) q31 _ hq32
      refine xe_call1 (ws' := xw_W (xy_a A 2 t_page_signs) L (xy_s S 1 1 t_page_length)) (by decide) heq32 (Or.inl rfl) ?_
      refine xe_seg ok 1 (G := (fun K => if q32 = (0 : Int32) then K (151, xm_i151, xm_I151, 0, 0, 92, [(0, .ref 52), (3, .int v3)], [], xw_W (xy_a A 2 t_page_signs) L (xy_s S 1 1 t_page_length)) else K (151, xm_i151, xm_I151, 0, 0, 48, [(0, .ref 52), (3, .int v3)], [], xw_W (xy_a A 2 t_page_signs) L (xy_s S 1 1 t_page_length)))) (fun K => rfl) ?_
      rcases xb_if h with ⟨hc33, h⟩ | ⟨hc33, h⟩
      · refine xe_pos hc33 (xe_k ?_)
        refine xe_sub [false, true] (lv' := [(3, .int v3)]) rfl ?_
        exact xh_wd_endFrom_50_92 ok A L S t_page_length t_page_signs n v3 _ h
      · refine xe_neg hc33 (xe_k ?_)
        refine xe_seg ok 2 (G := (fun K => K (151, xm_i151, xm_I151, 0, 0, 23, [(0, .ref 52), (3, .int (v3 + (1 : Int32)))], [], xw_W (xy_a A 2 t_page_signs) L (xy_s S 1 1 t_page_length)))) (fun K => rfl) ?_
        refine xe_k ?_
        refine xe_sub [true, true] (lv' := [(0, .ref 52), (3, .int (v3 + (1 : Int32)))]) rfl ?_
        exact hk23 (v3 + (1 : Int32)) _ h
    · refine xe_neg hc30 (xe_k ?_)
      refine xe_sub [false, true] (lv' := [(3, .int v3)]) rfl ?_
      exact xh_wd_endFrom_50_92 ok A L S t_page_length t_page_signs n v3 _ h
theorem xh_wd_endFrom_50 {l : Launch} {g : xr_G} (ok : xr_OK xm_P) (A : Nat → Nat → Int32) (L : Nat → Nat → Int64) (S : Nat → Nat → Int32) (t_page_length : Int32) (t_page_signs : (Nat → Int32)) (n : Nat) : ∀ (a1 : Int32) (a2 : Int32) (r : (Int32)), xf_wd_endFrom t_page_length t_page_signs n a1 a2 = some r → xV xm_P l g (151, xm_i151, xm_I151, 0, 0, 0, [(0, .ref 52), (1, .int a1), (2, .int a2)], [], xw_W (xy_a A 2 t_page_signs) L (xy_s S 1 1 t_page_length)) (.inl (some (.int r)), xw_W (xy_a A 2 t_page_signs) L (xy_s S 1 1 t_page_length)) := by
  intro a1 a2 r h
  unfold xf_wd_endFrom at h
  refine xe_seg ok 3 (G := (fun K => if a2 = ((39 : Int32)) then K (151, xm_i151, xm_I151, 0, 0, 6, [(0, .ref 52), (1, .int a1), (2, .int a2)], [], xw_W (xy_a A 2 t_page_signs) L (xy_s S 1 1 t_page_length)) else K (151, xm_i151, xm_I151, 0, 0, 12, [(0, .ref 52), (1, .int a1), (2, .int a2)], [], xw_W (xy_a A 2 t_page_signs) L (xy_s S 1 1 t_page_length)))) (fun K => rfl) ?_
  rcases xb_if h with ⟨hc9, h⟩ | ⟨hc9, h⟩
  · refine xe_pos hc9 (xe_k ?_)
    refine xe_seg ok 3 (G := (fun K => xr_back K 151 xm_i151 xm_I151 0 0 8 [(0, .ref 52), (1, .int a1), (2, .int a2)] [] 78 true (K (152, xm_i152, xm_I152, 0, 0, 0, [(0, .ref 52), (1, .int a1)], [], xw_W (xy_a A 2 t_page_signs) L (xy_s S 1 1 t_page_length))))) (fun K => rfl) ?_
    obtain ⟨q15, hq15, h⟩ := Option.bind_eq_some_iff.mp h
    have heq15 := xh_wd_textEndFrom_50 (l := l) (g := g) ok (xy_a A 2 t_page_signs) L (xy_s S 1 1 t_page_length) t_page_length t_page_signs n a1 _ hq15
    refine xe_call1 (ws' := xw_W (xy_a A 2 t_page_signs) L (xy_s S 1 1 t_page_length)) (by decide) heq15 (Or.inl rfl) ?_
    obtain rfl := Option.some.inj h
    refine xe_seg ok 1 (G := (fun _ => some (.inl (some (.int q15)), xw_W (xy_a A 2 t_page_signs) L (xy_s S 1 1 t_page_length)))) (fun K => rfl) ?_
    exact xe_ret
  · refine xe_neg hc9 (xe_k ?_)
    refine xe_seg ok 6 (G := (fun K => xr_back K 151 xm_i151 xm_I151 0 0 17 [(0, .ref 52), (1, .int a1), (2, .int a2), (3, .int (a1 + ((1 : Int32))))] [] 78 false (K (28, xm_i28, xm_I28, 0, 0, 0, [(0, .int a2)], [], xw_W (xy_a A 2 t_page_signs) L (xy_s S 1 1 t_page_length))))) (fun K => rfl) ?_
    obtain ⟨q19, hq19, h⟩ := Option.bind_eq_some_iff.mp h
    have heq19 := xh_xt_isDigit (l := l) (g := g) ok (xy_a A 2 t_page_signs) L (xy_s S 1 1 t_page_length) a2 _ hq19
    refine xe_call1 (ws' := xw_W (xy_a A 2 t_page_signs) L (xy_s S 1 1 t_page_length)) (by decide) heq19 (Or.inl rfl) ?_
    refine xe_seg ok 1 (G := (fun K => if q19 = (0 : Int32) then K (151, xm_i151, xm_I151, 0, 0, 54, [(0, .ref 52), (1, .int a1), (2, .int a2), (3, .int (a1 + ((1 : Int32))))], [], xw_W (xy_a A 2 t_page_signs) L (xy_s S 1 1 t_page_length)) else K (151, xm_i151, xm_I151, 0, 0, 23, [(0, .ref 52), (1, .int a1), (2, .int a2), (3, .int (a1 + ((1 : Int32))))], [], xw_W (xy_a A 2 t_page_signs) L (xy_s S 1 1 t_page_length)))) (fun K => rfl) ?_
    rcases xb_if h with ⟨hc20, h⟩ | ⟨hc20, h⟩
    · refine xe_pos hc20 (xe_k ?_)
      refine xe_seg ok 2 (G := (fun K => xr_back K 151 xm_i151 xm_I151 0 0 55 [(0, .ref 52), (1, .int a1), (2, .int a2), (3, .int (a1 + ((1 : Int32))))] [] 78 false (K (29, xm_i29, xm_I29, 0, 0, 0, [(0, .int a2)], [], xw_W (xy_a A 2 t_page_signs) L (xy_s S 1 1 t_page_length))))) (fun K => rfl) ?_
      obtain ⟨q24, hq24, h⟩ := Option.bind_eq_some_iff.mp h
      have heq24 := xh_xt_isLetter (l := l) (g := g) ok (xy_a A 2 t_page_signs) L (xy_s S 1 1 t_page_length) a2 _ hq24
      refine xe_call1 (ws' := xw_W (xy_a A 2 t_page_signs) L (xy_s S 1 1 t_page_length)) (by decide) heq24 (Or.inl rfl) ?_
      refine xe_seg ok 1 (G := (fun K => if q24 = (0 : Int32) then K (151, xm_i151, xm_I151, 0, 0, 92, [(0, .ref 52), (1, .int a1), (2, .int a2), (3, .int (a1 + ((1 : Int32))))], [], xw_W (xy_a A 2 t_page_signs) L (xy_s S 1 1 t_page_length)) else K (151, xm_i151, xm_I151, 0, 0, 61, [(0, .ref 52), (1, .int a1), (2, .int a2), (3, .int (a1 + ((1 : Int32))))], [], xw_W (xy_a A 2 t_page_signs) L (xy_s S 1 1 t_page_length)))) (fun K => rfl) ?_
      rcases xb_if h with ⟨hc25, h⟩ | ⟨hc25, h⟩
      · refine xe_pos hc25 (xe_k ?_)
        refine xe_sub [false, false, false, true] (lv' := [(3, .int (a1 + ((1 : Int32))))]) rfl ?_
        exact xh_wd_endFrom_50_92 ok A L S t_page_length t_page_signs n (a1 + ((1 : Int32))) _ h
      · refine xe_neg hc25 (xe_k ?_)
        refine xe_sub [true, false, false, true] (lv' := [(0, .ref 52), (3, .int (a1 + ((1 : Int32))))]) rfl ?_
        exact xh_wd_endFrom_50_61 ok A L S t_page_length t_page_signs n n (a1 + ((1 : Int32))) _ h
    · refine xe_neg hc20 (xe_k ?_)
      refine xe_sub [true, false, false, true] (lv' := [(0, .ref 52), (3, .int (a1 + ((1 : Int32))))]) rfl ?_
      exact xh_wd_endFrom_50_23 ok A L S t_page_length t_page_signs n n (a1 + ((1 : Int32))) _ h
theorem xh_wd_split_50_196 {l : Launch} {g : xr_G} (ok : xr_OK xm_P) (A : Nat → Nat → Int32) (L : Nat → Nat → Int64) (S : Nat → Nat → Int32) (t_page_length : Int32) (t_page_signs : (Nat → Int32)) {k17 : (Nat → Int32) → (Nat → Int32) → (Nat → Int32) → (Nat → Int32) → Int32 → Int32 → Int32 → Int32 → Int32 → Int32 → Option (Unit × (Nat → Int32) × (Nat → Int32) × (Nat → Int32) × (Nat → Int32) × Int32 × Int32)} (hk17 : ∀ (t_begin : (Nat → Int32)) (t_digits : (Nat → Int32)) (t_end : (Nat → Int32)) (t_first : (Nat → Int32)) (t_now : Int32) (t_total : Int32) (v1 : Int32) (v2 : Int32) (v3 : Int32) (v4 : Int32) (r : (Unit × (Nat → Int32) × (Nat → Int32) × (Nat → Int32) × (Nat → Int32) × Int32 × Int32)), k17 t_begin t_digits t_end t_first t_now t_total v1 v2 v3 v4 = some r → xV xm_P l g (150, xm_i150, xm_I150, 0, 0, 17, [(0, .ref 52), (1, .int v1), (2, .int v2), (3, .int v3), (4, .int v4)], [], xw_W (xy_a (xy_a (xy_a (xy_a (xy_a A 51 t_begin) 54 t_digits) 52 t_end) 53 t_first) 2 t_page_signs) L (xy_s (xy_s (xy_s S 50 6 t_now) 1 1 t_page_length) 50 5 t_total)) (.inl none, xw_W (xy_a (xy_a (xy_a (xy_a (xy_a A 51 r.2.1) 54 r.2.2.1) 52 r.2.2.2.1) 53 r.2.2.2.2.1) 2 t_page_signs) L (xy_s (xy_s (xy_s S 50 6 r.2.2.2.2.2.1) 1 1 t_page_length) 50 5 r.2.2.2.2.2.2))) (n : Nat) : ∀ (t_begin : (Nat → Int32)) (t_digits : (Nat → Int32)) (t_end : (Nat → Int32)) (t_first : (Nat → Int32)) (t_now : Int32) (t_total : Int32) (v1 : Int32) (v3 : Int32) (v4 : Int32) (s0 : Int32) (r : (Unit × (Nat → Int32) × (Nat → Int32) × (Nat → Int32) × (Nat → Int32) × Int32 × Int32)), xf_wd_split_196 t_page_length t_page_signs k17 n t_begin t_digits t_end t_first t_now t_total v1 v3 v4 s0 = some r → xV xm_P l g (150, xm_i150, xm_I150, 0, 0, 196, [(0, .ref 52), (1, .int v1), (3, .int v3), (4, .int v4)], [.int s0], xw_W (xy_a (xy_a (xy_a (xy_a (xy_a A 51 t_begin) 54 t_digits) 52 t_end) 53 t_first) 2 t_page_signs) L (xy_s (xy_s (xy_s S 50 6 t_now) 1 1 t_page_length) 50 5 t_total)) (.inl none, xw_W (xy_a (xy_a (xy_a (xy_a (xy_a A 51 r.2.1) 54 r.2.2.1) 52 r.2.2.2.1) 53 r.2.2.2.2.1) 2 t_page_signs) L (xy_s (xy_s (xy_s S 50 6 r.2.2.2.2.2.1) 1 1 t_page_length) 50 5 r.2.2.2.2.2.2)) := by
  intro t_begin t_digits t_end t_first t_now t_total v1 v3 v4 s0 r h
  unfold xf_wd_split_196 at h
  refine xe_seg ok 3 (G := (fun K => K (150, xm_i150, xm_I150, 0, 0, 17, [(0, .ref 52), (1, .int v1), (2, .int s0), (3, .int v3), (4, .int (v4 + (1 : Int32)))], [], xw_W (xy_a (xy_a (xy_a (xy_a (xy_a A 51 t_begin) 54 t_digits) 52 t_end) 53 t_first) 2 t_page_signs) L (xy_s (xy_s (xy_s S 50 6 t_now) 1 1 t_page_length) 50 5 t_total)))) (fun K => rfl) ?_
  refine xe_k ?_
  refine xe_sub [true, true, true, true, true] (lv' := [(0, .ref 52), (1, .int v1), (2, .int s0), (3, .int v3), (4, .int (v4 + (1 : Int32)))]) rfl ?_
  exact hk17 t_begin t_digits t_end t_first t_now t_total v1 s0 v3 (v4 + (1 : Int32)) _ h
theorem xh_wd_split_50_177 {l : Launch} {g : xr_G} (ok : xr_OK xm_P) (A : Nat → Nat → Int32) (L : Nat → Nat → Int64) (S : Nat → Nat → Int32) (t_page_length : Int32) (t_page_signs : (Nat → Int32)) {k17 : (Nat → Int32) → (Nat → Int32) → (Nat → Int32) → (Nat → Int32) → Int32 → Int32 → Int32 → Int32 → Int32 → Int32 → Option (Unit × (Nat → Int32) × (Nat → Int32) × (Nat → Int32) × (Nat → Int32) × Int32 × Int32)} (hk17 : ∀ (t_begin : (Nat → Int32)) (t_digits : (Nat → Int32)) (t_end : (Nat → Int32)) (t_first : (Nat → Int32)) (t_now : Int32) (t_total : Int32) (v1 : Int32) (v2 : Int32) (v3 : Int32) (v4 : Int32) (r : (Unit × (Nat → Int32) × (Nat → Int32) × (Nat → Int32) × (Nat → Int32) × Int32 × Int32)), k17 t_begin t_digits t_end t_first t_now t_total v1 v2 v3 v4 = some r → xV xm_P l g (150, xm_i150, xm_I150, 0, 0, 17, [(0, .ref 52), (1, .int v1), (2, .int v2), (3, .int v3), (4, .int v4)], [], xw_W (xy_a (xy_a (xy_a (xy_a (xy_a A 51 t_begin) 54 t_digits) 52 t_end) 53 t_first) 2 t_page_signs) L (xy_s (xy_s (xy_s S 50 6 t_now) 1 1 t_page_length) 50 5 t_total)) (.inl none, xw_W (xy_a (xy_a (xy_a (xy_a (xy_a A 51 r.2.1) 54 r.2.2.1) 52 r.2.2.2.1) 53 r.2.2.2.2.1) 2 t_page_signs) L (xy_s (xy_s (xy_s S 50 6 r.2.2.2.2.2.1) 1 1 t_page_length) 50 5 r.2.2.2.2.2.2))) (n : Nat) : ∀ (t_begin : (Nat → Int32)) (t_digits : (Nat → Int32)) (t_end : (Nat → Int32)) (t_first : (Nat → Int32)) (t_now : Int32) (t_total : Int32) (v1 : Int32) (v4 : Int32) (v6 : Int32) (s0 : Int32) (r : (Unit × (Nat → Int32) × (Nat → Int32) × (Nat → Int32) × (Nat → Int32) × Int32 × Int32)), xf_wd_split_177 t_page_length t_page_signs k17 n t_begin t_digits t_end t_first t_now t_total v1 v4 v6 s0 = some r → xV xm_P l g (150, xm_i150, xm_I150, 0, 0, 177, [(0, .ref 52), (1, .int v1), (4, .int v4), (6, .int v6)], [.int s0], xw_W (xy_a (xy_a (xy_a (xy_a (xy_a A 51 t_begin) 54 t_digits) 52 t_end) 53 t_first) 2 t_page_signs) L (xy_s (xy_s (xy_s S 50 6 t_now) 1 1 t_page_length) 50 5 t_total)) (.inl none, xw_W (xy_a (xy_a (xy_a (xy_a (xy_a A 51 r.2.1) 54 r.2.2.1) 52 r.2.2.2.1) 53 r.2.2.2.2.1) 2 t_page_signs) L (xy_s (xy_s (xy_s S 50 6 r.2.2.2.2.2.1) 1 1 t_page_length) 50 5 r.2.2.2.2.2.2)) := by
  intro t_begin t_digits t_end t_first t_now t_total v1 v4 v6 s0 r h
  unfold xf_wd_split_177 at h
  refine xe_seg ok 4 (G := (fun K => if v6 = ((-1 : Int32)) then K (150, xm_i150, xm_I150, 0, 0, 184, [(0, .ref 52), (1, .int v1), (3, .int s0), (4, .int v4), (6, .int v6)], [], xw_W (xy_a (xy_a (xy_a (xy_a (xy_a A 51 t_begin) 54 t_digits) 52 t_end) 53 t_first) 2 t_page_signs) L (xy_s (xy_s (xy_s S 50 6 t_now) 1 1 t_page_length) 50 5 t_total)) else K (150, xm_i150, xm_I150, 0, 0, 194, [(0, .ref 52), (1, .int v1), (3, .int s0), (4, .int v4), (6, .int v6)], [], xw_W (xy_a (xy_a (xy_a (xy_a (xy_a A 51 t_begin) 54 t_digits) 52 t_end) 53 t_first) 2 t_page_signs) L (xy_s (xy_s (xy_s S 50 6 t_now) 1 1 t_page_length) 50 5 t_total)))) (fun K => rfl) ?_
  rcases xb_if h with ⟨hc37, h⟩ | ⟨hc37, h⟩
  · refine xe_pos hc37 (xe_k ?_)
    refine xe_seg ok 4 (G := (fun K => K (150, xm_i150, xm_I150, 0, 0, 196, [(0, .ref 52), (1, .int v1), (3, .int s0), (4, .int v4), (6, .int v6)], [.int t_page_length], xw_W (xy_a (xy_a (xy_a (xy_a (xy_a A 51 t_begin) 54 t_digits) 52 t_end) 53 t_first) 2 t_page_signs) L (xy_s (xy_s (xy_s S 50 6 t_now) 1 1 t_page_length) 50 5 t_total)))) (fun K => rfl) ?_
    refine xe_k ?_
    refine xe_sub [true, true, true, true, false] (lv' := [(0, .ref 52), (1, .int v1), (3, .int s0), (4, .int v4)]) rfl ?_
    exact xh_wd_split_50_196 ok A L S t_page_length t_page_signs hk17 n t_begin t_digits t_end t_first t_now t_total v1 s0 v4 t_page_length _ h
  · refine xe_neg hc37 (xe_k ?_)
    refine xe_seg ok 1 (G := (fun K => K (150, xm_i150, xm_I150, 0, 0, 196, [(0, .ref 52), (1, .int v1), (3, .int s0), (4, .int v4), (6, .int v6)], [.int v6], xw_W (xy_a (xy_a (xy_a (xy_a (xy_a A 51 t_begin) 54 t_digits) 52 t_end) 53 t_first) 2 t_page_signs) L (xy_s (xy_s (xy_s S 50 6 t_now) 1 1 t_page_length) 50 5 t_total)))) (fun K => rfl) ?_
    refine xe_k ?_
    refine xe_sub [true, true, true, true, false] (lv' := [(0, .ref 52), (1, .int v1), (3, .int s0), (4, .int v4)]) rfl ?_
    exact xh_wd_split_50_196 ok A L S t_page_length t_page_signs hk17 n t_begin t_digits t_end t_first t_now t_total v1 s0 v4 v6 _ h
theorem xh_wd_split_50_176 {l : Launch} {g : xr_G} (ok : xr_OK xm_P) (A : Nat → Nat → Int32) (L : Nat → Nat → Int64) (S : Nat → Nat → Int32) (t_page_length : Int32) (t_page_signs : (Nat → Int32)) {k17 : (Nat → Int32) → (Nat → Int32) → (Nat → Int32) → (Nat → Int32) → Int32 → Int32 → Int32 → Int32 → Int32 → Int32 → Option (Unit × (Nat → Int32) × (Nat → Int32) × (Nat → Int32) × (Nat → Int32) × Int32 × Int32)} (hk17 : ∀ (t_begin : (Nat → Int32)) (t_digits : (Nat → Int32)) (t_end : (Nat → Int32)) (t_first : (Nat → Int32)) (t_now : Int32) (t_total : Int32) (v1 : Int32) (v2 : Int32) (v3 : Int32) (v4 : Int32) (r : (Unit × (Nat → Int32) × (Nat → Int32) × (Nat → Int32) × (Nat → Int32) × Int32 × Int32)), k17 t_begin t_digits t_end t_first t_now t_total v1 v2 v3 v4 = some r → xV xm_P l g (150, xm_i150, xm_I150, 0, 0, 17, [(0, .ref 52), (1, .int v1), (2, .int v2), (3, .int v3), (4, .int v4)], [], xw_W (xy_a (xy_a (xy_a (xy_a (xy_a A 51 t_begin) 54 t_digits) 52 t_end) 53 t_first) 2 t_page_signs) L (xy_s (xy_s (xy_s S 50 6 t_now) 1 1 t_page_length) 50 5 t_total)) (.inl none, xw_W (xy_a (xy_a (xy_a (xy_a (xy_a A 51 r.2.1) 54 r.2.2.1) 52 r.2.2.2.1) 53 r.2.2.2.2.1) 2 t_page_signs) L (xy_s (xy_s (xy_s S 50 6 r.2.2.2.2.2.1) 1 1 t_page_length) 50 5 r.2.2.2.2.2.2))) (n : Nat) : ∀ (t_begin : (Nat → Int32)) (t_digits : (Nat → Int32)) (t_end : (Nat → Int32)) (t_first : (Nat → Int32)) (t_now : Int32) (t_total : Int32) (v1 : Int32) (v4 : Int32) (v6 : Int32) (r : (Unit × (Nat → Int32) × (Nat → Int32) × (Nat → Int32) × (Nat → Int32) × Int32 × Int32)), xf_wd_split_176 t_page_length t_page_signs k17 n t_begin t_digits t_end t_first t_now t_total v1 v4 v6 = some r → xV xm_P l g (150, xm_i150, xm_I150, 0, 0, 176, [(0, .ref 52), (1, .int v1), (4, .int v4), (6, .int v6)], [], xw_W (xy_a (xy_a (xy_a (xy_a (xy_a A 51 t_begin) 54 t_digits) 52 t_end) 53 t_first) 2 t_page_signs) L (xy_s (xy_s (xy_s S 50 6 t_now) 1 1 t_page_length) 50 5 t_total)) (.inl none, xw_W (xy_a (xy_a (xy_a (xy_a (xy_a A 51 r.2.1) 54 r.2.2.1) 52 r.2.2.2.1) 53 r.2.2.2.2.1) 2 t_page_signs) L (xy_s (xy_s (xy_s S 50 6 r.2.2.2.2.2.1) 1 1 t_page_length) 50 5 r.2.2.2.2.2.2)) := by
  intro t_begin t_digits t_end t_first t_now t_total v1 v4 v6 r h
  unfold xf_wd_split_176 at h
  refine xe_seg ok 1 (G := (fun K => K (150, xm_i150, xm_I150, 0, 0, 177, [(0, .ref 52), (1, .int v1), (4, .int v4), (6, .int v6)], [.int ((0 : Int32))], xw_W (xy_a (xy_a (xy_a (xy_a (xy_a A 51 t_begin) 54 t_digits) 52 t_end) 53 t_first) 2 t_page_signs) L (xy_s (xy_s (xy_s S 50 6 t_now) 1 1 t_page_length) 50 5 t_total)))) (fun K => rfl) ?_
  refine xe_k ?_
  refine xe_sub [true, true, true, true] (lv' := [(0, .ref 52), (1, .int v1), (4, .int v4), (6, .int v6)]) rfl ?_
  exact xh_wd_split_50_177 ok A L S t_page_length t_page_signs hk17 n t_begin t_digits t_end t_first t_now t_total v1 v4 v6 ((0 : Int32)) _ h
theorem xh_wd_split_50_150 {l : Launch} {g : xr_G} (ok : xr_OK xm_P) (A : Nat → Nat → Int32) (L : Nat → Nat → Int64) (S : Nat → Nat → Int32) (t_page_length : Int32) (t_page_signs : (Nat → Int32)) {k17 : (Nat → Int32) → (Nat → Int32) → (Nat → Int32) → (Nat → Int32) → Int32 → Int32 → Int32 → Int32 → Int32 → Int32 → Option (Unit × (Nat → Int32) × (Nat → Int32) × (Nat → Int32) × (Nat → Int32) × Int32 × Int32)} (hk17 : ∀ (t_begin : (Nat → Int32)) (t_digits : (Nat → Int32)) (t_end : (Nat → Int32)) (t_first : (Nat → Int32)) (t_now : Int32) (t_total : Int32) (v1 : Int32) (v2 : Int32) (v3 : Int32) (v4 : Int32) (r : (Unit × (Nat → Int32) × (Nat → Int32) × (Nat → Int32) × (Nat → Int32) × Int32 × Int32)), k17 t_begin t_digits t_end t_first t_now t_total v1 v2 v3 v4 = some r → xV xm_P l g (150, xm_i150, xm_I150, 0, 0, 17, [(0, .ref 52), (1, .int v1), (2, .int v2), (3, .int v3), (4, .int v4)], [], xw_W (xy_a (xy_a (xy_a (xy_a (xy_a A 51 t_begin) 54 t_digits) 52 t_end) 53 t_first) 2 t_page_signs) L (xy_s (xy_s (xy_s S 50 6 t_now) 1 1 t_page_length) 50 5 t_total)) (.inl none, xw_W (xy_a (xy_a (xy_a (xy_a (xy_a A 51 r.2.1) 54 r.2.2.1) 52 r.2.2.2.1) 53 r.2.2.2.2.1) 2 t_page_signs) L (xy_s (xy_s (xy_s S 50 6 r.2.2.2.2.2.1) 1 1 t_page_length) 50 5 r.2.2.2.2.2.2))) (n : Nat) : ∀ (t_begin : (Nat → Int32)) (t_digits : (Nat → Int32)) (t_end : (Nat → Int32)) (t_first : (Nat → Int32)) (t_now : Int32) (t_total : Int32) (v1 : Int32) (v3 : Int32) (v4 : Int32) (v5 : Int32) (v6 : Int32) (r : (Unit × (Nat → Int32) × (Nat → Int32) × (Nat → Int32) × (Nat → Int32) × Int32 × Int32)), xf_wd_split_150 t_page_length t_page_signs k17 n t_begin t_digits t_end t_first t_now t_total v1 v3 v4 v5 v6 = some r → xV xm_P l g (150, xm_i150, xm_I150, 0, 0, 150, [(0, .ref 52), (1, .int v1), (3, .int v3), (4, .int v4), (5, .int v5), (6, .int v6)], [], xw_W (xy_a (xy_a (xy_a (xy_a (xy_a A 51 t_begin) 54 t_digits) 52 t_end) 53 t_first) 2 t_page_signs) L (xy_s (xy_s (xy_s S 50 6 t_now) 1 1 t_page_length) 50 5 t_total)) (.inl none, xw_W (xy_a (xy_a (xy_a (xy_a (xy_a A 51 r.2.1) 54 r.2.2.1) 52 r.2.2.2.1) 53 r.2.2.2.2.1) 2 t_page_signs) L (xy_s (xy_s (xy_s S 50 6 r.2.2.2.2.2.1) 1 1 t_page_length) 50 5 r.2.2.2.2.2.2)) := by
  intro t_begin t_digits t_end t_first t_now t_total v1 v3 v4 v5 v6 r h
  unfold xf_wd_split_150 at h
  refine xe_seg ok 3 (G := (fun K => if v5 = ((61 : Int32)) then K (150, xm_i150, xm_I150, 0, 0, 157, [(0, .ref 52), (1, .int v1), (3, .int v3), (4, .int v4), (5, .int v5), (6, .int v6)], [], xw_W (xy_a (xy_a (xy_a (xy_a (xy_a A 51 t_begin) 54 t_digits) 52 t_end) 53 t_first) 2 t_page_signs) L (xy_s (xy_s (xy_s S 50 6 t_now) 1 1 t_page_length) 50 5 t_total)) else K (150, xm_i150, xm_I150, 0, 0, 161, [(0, .ref 52), (1, .int v1), (3, .int v3), (4, .int v4), (5, .int v5), (6, .int v6)], [], xw_W (xy_a (xy_a (xy_a (xy_a (xy_a A 51 t_begin) 54 t_digits) 52 t_end) 53 t_first) 2 t_page_signs) L (xy_s (xy_s (xy_s S 50 6 t_now) 1 1 t_page_length) 50 5 t_total)))) (fun K => rfl) ?_
  rcases xb_if h with ⟨hc36, h⟩ | ⟨hc36, h⟩
  · refine xe_pos hc36 (xe_k ?_)
    refine xe_seg ok 2 (G := (fun K => K (150, xm_i150, xm_I150, 0, 0, 177, [(0, .ref 52), (1, .int v1), (3, .int v3), (4, .int v4), (5, .int v5), (6, .int v6)], [.int v1], xw_W (xy_a (xy_a (xy_a (xy_a (xy_a A 51 t_begin) 54 t_digits) 52 t_end) 53 t_first) 2 t_page_signs) L (xy_s (xy_s (xy_s S 50 6 t_now) 1 1 t_page_length) 50 5 t_total)))) (fun K => rfl) ?_
    refine xe_k ?_
    refine xe_sub [true, true, false, true, false, true] (lv' := [(0, .ref 52), (1, .int v1), (4, .int v4), (6, .int v6)]) rfl ?_
    exact xh_wd_split_50_177 ok A L S t_page_length t_page_signs hk17 n t_begin t_digits t_end t_first t_now t_total v1 v4 v6 v1 _ h
  · refine xe_neg hc36 (xe_k ?_)
    refine xe_seg ok 2 (G := (fun K => if v3 = (0 : Int32) then K (150, xm_i150, xm_I150, 0, 0, 176, [(0, .ref 52), (1, .int v1), (3, .int v3), (4, .int v4), (5, .int v5), (6, .int v6)], [], xw_W (xy_a (xy_a (xy_a (xy_a (xy_a A 51 t_begin) 54 t_digits) 52 t_end) 53 t_first) 2 t_page_signs) L (xy_s (xy_s (xy_s S 50 6 t_now) 1 1 t_page_length) 50 5 t_total)) else K (150, xm_i150, xm_I150, 0, 0, 165, [(0, .ref 52), (1, .int v1), (3, .int v3), (4, .int v4), (5, .int v5), (6, .int v6)], [], xw_W (xy_a (xy_a (xy_a (xy_a (xy_a A 51 t_begin) 54 t_digits) 52 t_end) 53 t_first) 2 t_page_signs) L (xy_s (xy_s (xy_s S 50 6 t_now) 1 1 t_page_length) 50 5 t_total)))) (fun K => rfl) ?_
    rcases xb_if h with ⟨hc38, h⟩ | ⟨hc38, h⟩
    · refine xe_pos hc38 (xe_k ?_)
      refine xe_sub [true, true, false, true, false, true] (lv' := [(0, .ref 52), (1, .int v1), (4, .int v4), (6, .int v6)]) rfl ?_
      exact xh_wd_split_50_176 ok A L S t_page_length t_page_signs hk17 n t_begin t_digits t_end t_first t_now t_total v1 v4 v6 _ h
    · refine xe_neg hc38 (xe_k ?_)
      refine xe_seg ok 3 (G := (fun K => if v5 = ((59 : Int32)) then K (150, xm_i150, xm_I150, 0, 0, 176, [(0, .ref 52), (1, .int v1), (3, .int v3), (4, .int v4), (5, .int v5), (6, .int v6)], [], xw_W (xy_a (xy_a (xy_a (xy_a (xy_a A 51 t_begin) 54 t_digits) 52 t_end) 53 t_first) 2 t_page_signs) L (xy_s (xy_s (xy_s S 50 6 t_now) 1 1 t_page_length) 50 5 t_total)) else K (150, xm_i150, xm_I150, 0, 0, 172, [(0, .ref 52), (1, .int v1), (3, .int v3), (4, .int v4), (5, .int v5), (6, .int v6)], [], xw_W (xy_a (xy_a (xy_a (xy_a (xy_a A 51 t_begin) 54 t_digits) 52 t_end) 53 t_first) 2 t_page_signs) L (xy_s (xy_s (xy_s S 50 6 t_now) 1 1 t_page_length) 50 5 t_total)))) (fun K => rfl) ?_
      rcases xb_if h with ⟨hc39, h⟩ | ⟨hc39, h⟩
      · refine xe_pos hc39 (xe_k ?_)
        refine xe_sub [true, true, false, true, false, true] (lv' := [(0, .ref 52), (1, .int v1), (4, .int v4), (6, .int v6)]) rfl ?_
        exact xh_wd_split_50_176 ok A L S t_page_length t_page_signs hk17 n t_begin t_digits t_end t_first t_now t_total v1 v4 v6 _ h
      · refine xe_neg hc39 (xe_k ?_)
        refine xe_seg ok 2 (G := (fun K => K (150, xm_i150, xm_I150, 0, 0, 177, [(0, .ref 52), (1, .int v1), (3, .int v3), (4, .int v4), (5, .int v5), (6, .int v6)], [.int ((1 : Int32))], xw_W (xy_a (xy_a (xy_a (xy_a (xy_a A 51 t_begin) 54 t_digits) 52 t_end) 53 t_first) 2 t_page_signs) L (xy_s (xy_s (xy_s S 50 6 t_now) 1 1 t_page_length) 50 5 t_total)))) (fun K => rfl) ?_
        refine xe_k ?_
        refine xe_sub [true, true, false, true, false, true] (lv' := [(0, .ref 52), (1, .int v1), (4, .int v4), (6, .int v6)]) rfl ?_
        exact xh_wd_split_50_177 ok A L S t_page_length t_page_signs hk17 n t_begin t_digits t_end t_first t_now t_total v1 v4 v6 ((1 : Int32)) _ h
theorem xh_wd_split_50_139 {l : Launch} {g : xr_G} (ok : xr_OK xm_P) (A : Nat → Nat → Int32) (L : Nat → Nat → Int64) (S : Nat → Nat → Int32) (t_page_length : Int32) (t_page_signs : (Nat → Int32)) {k17 : (Nat → Int32) → (Nat → Int32) → (Nat → Int32) → (Nat → Int32) → Int32 → Int32 → Int32 → Int32 → Int32 → Int32 → Option (Unit × (Nat → Int32) × (Nat → Int32) × (Nat → Int32) × (Nat → Int32) × Int32 × Int32)} (hk17 : ∀ (t_begin : (Nat → Int32)) (t_digits : (Nat → Int32)) (t_end : (Nat → Int32)) (t_first : (Nat → Int32)) (t_now : Int32) (t_total : Int32) (v1 : Int32) (v2 : Int32) (v3 : Int32) (v4 : Int32) (r : (Unit × (Nat → Int32) × (Nat → Int32) × (Nat → Int32) × (Nat → Int32) × Int32 × Int32)), k17 t_begin t_digits t_end t_first t_now t_total v1 v2 v3 v4 = some r → xV xm_P l g (150, xm_i150, xm_I150, 0, 0, 17, [(0, .ref 52), (1, .int v1), (2, .int v2), (3, .int v3), (4, .int v4)], [], xw_W (xy_a (xy_a (xy_a (xy_a (xy_a A 51 t_begin) 54 t_digits) 52 t_end) 53 t_first) 2 t_page_signs) L (xy_s (xy_s (xy_s S 50 6 t_now) 1 1 t_page_length) 50 5 t_total)) (.inl none, xw_W (xy_a (xy_a (xy_a (xy_a (xy_a A 51 r.2.1) 54 r.2.2.1) 52 r.2.2.2.1) 53 r.2.2.2.2.1) 2 t_page_signs) L (xy_s (xy_s (xy_s S 50 6 r.2.2.2.2.2.1) 1 1 t_page_length) 50 5 r.2.2.2.2.2.2))) (n : Nat) : ∀ (t_begin : (Nat → Int32)) (t_digits : (Nat → Int32)) (t_end : (Nat → Int32)) (t_first : (Nat → Int32)) (t_now : Int32) (t_total : Int32) (v1 : Int32) (v3 : Int32) (v4 : Int32) (v5 : Int32) (v6 : Int32) (s1 : Int32) (s2 : Int32) (r : (Unit × (Nat → Int32) × (Nat → Int32) × (Nat → Int32) × (Nat → Int32) × Int32 × Int32)), xf_wd_split_139 t_page_length t_page_signs k17 n t_begin t_digits t_end t_first t_now t_total v1 v3 v4 v5 v6 s1 s2 = some r → xV xm_P l g (150, xm_i150, xm_I150, 0, 0, 139, [(0, .ref 52), (1, .int v1), (3, .int v3), (4, .int v4), (5, .int v5), (6, .int v6)], [.int s2, .int s1, .ref 56], xw_W (xy_a (xy_a (xy_a (xy_a (xy_a A 51 t_begin) 54 t_digits) 52 t_end) 53 t_first) 2 t_page_signs) L (xy_s (xy_s (xy_s S 50 6 t_now) 1 1 t_page_length) 50 5 t_total)) (.inl none, xw_W (xy_a (xy_a (xy_a (xy_a (xy_a A 51 r.2.1) 54 r.2.2.1) 52 r.2.2.2.1) 53 r.2.2.2.2.1) 2 t_page_signs) L (xy_s (xy_s (xy_s S 50 6 r.2.2.2.2.2.1) 1 1 t_page_length) 50 5 r.2.2.2.2.2.2)) := by
  intro t_begin t_digits t_end t_first t_now t_total v1 v3 v4 v5 v6 s1 s2 r h
  unfold xf_wd_split_139 at h
  refine xe_seg ok 1 (G := (fun K => if xr_in s1 1200 = true then K (150, xm_i150, xm_I150, 0, 0, 140, [(0, .ref 52), (1, .int v1), (3, .int v3), (4, .int v4), (5, .int v5), (6, .int v6)], [], xw_W (xy_a (xy_a (xy_a (xy_a (xy_a A 51 t_begin) 54 (upd t_digits s1.toNatClampNeg s2)) 52 t_end) 53 t_first) 2 t_page_signs) L (xy_s (xy_s (xy_s S 50 6 t_now) 1 1 t_page_length) 50 5 t_total)) else none)) (fun K => rfl) ?_
  obtain ⟨hg45, h⟩ := xn_if h
  refine xe_pos hg45 (xe_k ?_)
  refine xe_seg ok 6 (G := (fun K => K (150, xm_i150, xm_I150, 0, 0, 150, [(0, .ref 52), (1, .int v1), (3, .int v3), (4, .int v4), (5, .int v5), (6, .int v6)], [], xw_W (xy_a (xy_a (xy_a (xy_a (xy_a A 51 t_begin) 54 (upd t_digits s1.toNatClampNeg s2)) 52 t_end) 53 t_first) 2 t_page_signs) L (xy_s (xy_s (xy_s S 50 6 t_now) 1 1 t_page_length) 50 5 (t_total + ((1 : Int32))))))) (fun K => rfl) ?_
  refine xe_k ?_
  refine xe_sub [true, true, true, true, true, true] (lv' := [(0, .ref 52), (1, .int v1), (3, .int v3), (4, .int v4), (5, .int v5), (6, .int v6)]) rfl ?_
  exact xh_wd_split_50_150 ok A L S t_page_length t_page_signs hk17 n t_begin (upd t_digits s1.toNatClampNeg s2) t_end t_first t_now (t_total + ((1 : Int32))) v1 v3 v4 v5 v6 _ h
theorem xh_wd_digitsBetween_50_15 {l : Launch} {g : xr_G} (ok : xr_OK xm_P) (A : Nat → Nat → Int32) (L : Nat → Nat → Int64) (S : Nat → Nat → Int32) (t_page_length : Int32) (t_page_signs : (Nat → Int32)) (n : Nat) : ∀ (N : Nat) (v2 : Int32) (v3 : Int32) (v4 : Int32) (r : (Int32)), xf_wd_digitsBetween_15 t_page_length t_page_signs n N v2 v3 v4 = some r → xV xm_P l g (153, xm_i153, xm_I153, 0, 0, 15, [(0, .ref 52), (2, .int v2), (3, .int v3), (4, .int v4)], [], xw_W (xy_a A 2 t_page_signs) L (xy_s S 1 1 t_page_length)) (.inl (some (.int r)), xw_W (xy_a A 2 t_page_signs) L (xy_s S 1 1 t_page_length)) := by
  intro N
  induction N with
  | zero => intro v2 v3 v4 r h; cases h
  | succ N hk15 =>
    intro v2 v3 v4 r h
    refine xe_seg ok 3 (G := (fun K => if v4 < v2 then K (153, xm_i153, xm_I153, 0, 0, 21, [(0, .ref 52), (2, .int v2), (3, .int v3), (4, .int v4)], [], xw_W (xy_a A 2 t_page_signs) L (xy_s S 1 1 t_page_length)) else K (153, xm_i153, xm_I153, 0, 0, 45, [(0, .ref 52), (2, .int v2), (3, .int v3), (4, .int v4)], [], xw_W (xy_a A 2 t_page_signs) L (xy_s S 1 1 t_page_length)))) (fun K => rfl) ?_
    rcases xb_if h with ⟨hc47, h⟩ | ⟨hc47, h⟩
    · refine xe_pos hc47 (xe_k ?_)
      refine xe_seg ok 7 (G := (fun K => xr_back K 153 xm_i153 xm_I153 0 0 31 [(0, .ref 52), (2, .int v2), (3, .int v3), (4, .int v4)] [.int (v3 * ((10 : Int32)))] 78 true (K (144, xm_i144, xm_I144, 0, 0, 0, [(0, .ref 3), (1, .int v4)], [], xw_W (xy_a A 2 t_page_signs) L (xy_s S 1 1 t_page_length))))) (fun K => rfl) ?_
      obtain ⟨q48, hq48, h⟩ := Option.bind_eq_some_iff.mp h
      have heq48 := xh_pg_signAt_1 (l := l) (g := g) ok (xy_a A 2 t_page_signs) L (xy_s S 1 1 t_page_length) t_page_length t_page_signs v4 _ hq48
      refine xe_call1 (ws' := xw_W (xy_a A 2 t_page_signs) L (xy_s S 1 1 t_page_length)) (by decide) heq48 (Or.inl rfl) ?_
      refine xe_seg ok 6 (G := (fun K => K (153, xm_i153, xm_I153, 0, 0, 15, [(0, .ref 52), (2, .int v2), (3, .int (((v3 * ((10 : Int32))) + q48) - ((48 : Int32)))), (4, .int (v4 + (1 : Int32)))], [], xw_W (xy_a A 2 t_page_signs) L (xy_s S 1 1 t_page_length)))) (fun K => rfl) ?_
      refine xe_k ?_
      refine xe_sub [true, true, true, true] (lv' := [(0, .ref 52), (2, .int v2), (3, .int (((v3 * ((10 : Int32))) + q48) - ((48 : Int32)))), (4, .int (v4 + (1 : Int32)))]) rfl ?_
      exact hk15 v2 (((v3 * ((10 : Int32))) + q48) - ((48 : Int32))) (v4 + (1 : Int32)) _ h
    · refine xe_neg hc47 (xe_k ?_)
      obtain rfl := Option.some.inj h
      refine xe_seg ok 2 (G := (fun _ => some (.inl (some (.int v3)), xw_W (xy_a A 2 t_page_signs) L (xy_s S 1 1 t_page_length)))) (fun K => rfl) ?_
      exact xe_ret
theorem xh_wd_digitsBetween_50 {l : Launch} {g : xr_G} (ok : xr_OK xm_P) (A : Nat → Nat → Int32) (L : Nat → Nat → Int64) (S : Nat → Nat → Int32) (t_page_length : Int32) (t_page_signs : (Nat → Int32)) (n : Nat) : ∀ (a1 : Int32) (a2 : Int32) (r : (Int32)), xf_wd_digitsBetween t_page_length t_page_signs n a1 a2 = some r → xV xm_P l g (153, xm_i153, xm_I153, 0, 0, 0, [(0, .ref 52), (1, .int a1), (2, .int a2)], [], xw_W (xy_a A 2 t_page_signs) L (xy_s S 1 1 t_page_length)) (.inl (some (.int r)), xw_W (xy_a A 2 t_page_signs) L (xy_s S 1 1 t_page_length)) := by
  intro a1 a2 r h
  unfold xf_wd_digitsBetween at h
  refine xe_seg ok 5 (G := (fun K => if ((9 : Int32)) < (a2 - a1) then K (153, xm_i153, xm_I153, 0, 0, 8, [(0, .ref 52), (1, .int a1), (2, .int a2)], [], xw_W (xy_a A 2 t_page_signs) L (xy_s S 1 1 t_page_length)) else K (153, xm_i153, xm_I153, 0, 0, 10, [(0, .ref 52), (1, .int a1), (2, .int a2)], [], xw_W (xy_a A 2 t_page_signs) L (xy_s S 1 1 t_page_length)))) (fun K => rfl) ?_
  rcases xb_if h with ⟨hc46, h⟩ | ⟨hc46, h⟩
  · refine xe_pos hc46 (xe_k ?_)
    obtain rfl := Option.some.inj h
    refine xe_seg ok 2 (G := (fun _ => some (.inl (some (.int ((-1 : Int32)))), xw_W (xy_a A 2 t_page_signs) L (xy_s S 1 1 t_page_length)))) (fun K => rfl) ?_
    exact xe_ret
  · refine xe_neg hc46 (xe_k ?_)
    refine xe_seg ok 4 (G := (fun K => K (153, xm_i153, xm_I153, 0, 0, 15, [(0, .ref 52), (1, .int a1), (2, .int a2), (3, .int ((0 : Int32))), (4, .int a1)], [], xw_W (xy_a A 2 t_page_signs) L (xy_s S 1 1 t_page_length)))) (fun K => rfl) ?_
    refine xe_k ?_
    refine xe_sub [true, false, true, true, true] (lv' := [(0, .ref 52), (2, .int a2), (3, .int ((0 : Int32))), (4, .int a1)]) rfl ?_
    exact xh_wd_digitsBetween_50_15 ok A L S t_page_length t_page_signs n n a2 ((0 : Int32)) a1 _ h
theorem xh_wd_split_50_71 {l : Launch} {g : xr_G} (ok : xr_OK xm_P) (A : Nat → Nat → Int32) (L : Nat → Nat → Int64) (S : Nat → Nat → Int32) (t_page_length : Int32) (t_page_signs : (Nat → Int32)) {k17 : (Nat → Int32) → (Nat → Int32) → (Nat → Int32) → (Nat → Int32) → Int32 → Int32 → Int32 → Int32 → Int32 → Int32 → Option (Unit × (Nat → Int32) × (Nat → Int32) × (Nat → Int32) × (Nat → Int32) × Int32 × Int32)} (hk17 : ∀ (t_begin : (Nat → Int32)) (t_digits : (Nat → Int32)) (t_end : (Nat → Int32)) (t_first : (Nat → Int32)) (t_now : Int32) (t_total : Int32) (v1 : Int32) (v2 : Int32) (v3 : Int32) (v4 : Int32) (r : (Unit × (Nat → Int32) × (Nat → Int32) × (Nat → Int32) × (Nat → Int32) × Int32 × Int32)), k17 t_begin t_digits t_end t_first t_now t_total v1 v2 v3 v4 = some r → xV xm_P l g (150, xm_i150, xm_I150, 0, 0, 17, [(0, .ref 52), (1, .int v1), (2, .int v2), (3, .int v3), (4, .int v4)], [], xw_W (xy_a (xy_a (xy_a (xy_a (xy_a A 51 t_begin) 54 t_digits) 52 t_end) 53 t_first) 2 t_page_signs) L (xy_s (xy_s (xy_s S 50 6 t_now) 1 1 t_page_length) 50 5 t_total)) (.inl none, xw_W (xy_a (xy_a (xy_a (xy_a (xy_a A 51 r.2.1) 54 r.2.2.1) 52 r.2.2.2.1) 53 r.2.2.2.2.1) 2 t_page_signs) L (xy_s (xy_s (xy_s S 50 6 r.2.2.2.2.2.1) 1 1 t_page_length) 50 5 r.2.2.2.2.2.2))) (n : Nat) : ∀ (t_begin : (Nat → Int32)) (t_digits : (Nat → Int32)) (t_end : (Nat → Int32)) (t_first : (Nat → Int32)) (t_now : Int32) (t_total : Int32) (v1 : Int32) (v2 : Int32) (v3 : Int32) (v4 : Int32) (v5 : Int32) (s0 : Int32) (r : (Unit × (Nat → Int32) × (Nat → Int32) × (Nat → Int32) × (Nat → Int32) × Int32 × Int32)), xf_wd_split_71 t_page_length t_page_signs k17 n t_begin t_digits t_end t_first t_now t_total v1 v2 v3 v4 v5 s0 = some r → xV xm_P l g (150, xm_i150, xm_I150, 0, 0, 71, [(0, .ref 52), (1, .int v1), (2, .int v2), (3, .int v3), (4, .int v4), (5, .int v5)], [.int s0], xw_W (xy_a (xy_a (xy_a (xy_a (xy_a A 51 t_begin) 54 t_digits) 52 t_end) 53 t_first) 2 t_page_signs) L (xy_s (xy_s (xy_s S 50 6 t_now) 1 1 t_page_length) 50 5 t_total)) (.inl none, xw_W (xy_a (xy_a (xy_a (xy_a (xy_a A 51 r.2.1) 54 r.2.2.1) 52 r.2.2.2.1) 53 r.2.2.2.2.1) 2 t_page_signs) L (xy_s (xy_s (xy_s S 50 6 r.2.2.2.2.2.1) 1 1 t_page_length) 50 5 r.2.2.2.2.2.2)) := by
  intro t_begin t_digits t_end t_first t_now t_total v1 v2 v3 v4 v5 s0 r h
  unfold xf_wd_split_71 at h
  refine xe_seg ok 4 (G := (fun K => if v5 = ((32 : Int32)) then K (150, xm_i150, xm_I150, 0, 0, 150, [(0, .ref 52), (1, .int v1), (2, .int v2), (3, .int v3), (4, .int v4), (5, .int v5), (6, .int s0)], [], xw_W (xy_a (xy_a (xy_a (xy_a (xy_a A 51 t_begin) 54 t_digits) 52 t_end) 53 t_first) 2 t_page_signs) L (xy_s (xy_s (xy_s S 50 6 t_now) 1 1 t_page_length) 50 5 t_total)) else K (150, xm_i150, xm_I150, 0, 0, 80, [(0, .ref 52), (1, .int v1), (2, .int v2), (3, .int v3), (4, .int v4), (5, .int v5), (6, .int s0)], [], xw_W (xy_a (xy_a (xy_a (xy_a (xy_a A 51 t_begin) 54 t_digits) 52 t_end) 53 t_first) 2 t_page_signs) L (xy_s (xy_s (xy_s S 50 6 t_now) 1 1 t_page_length) 50 5 t_total)))) (fun K => rfl) ?_
  rcases xb_if h with ⟨hc35, h⟩ | ⟨hc35, h⟩
  · refine xe_pos hc35 (xe_k ?_)
    refine xe_sub [true, true, false, true, true, true, true] (lv' := [(0, .ref 52), (1, .int v1), (3, .int v3), (4, .int v4), (5, .int v5), (6, .int s0)]) rfl ?_
    exact xh_wd_split_50_150 ok A L S t_page_length t_page_signs hk17 n t_begin t_digits t_end t_first t_now t_total v1 v3 v4 v5 s0 _ h
  · refine xe_neg hc35 (xe_k ?_)
    refine xe_seg ok 6 (G := (fun K => if xr_in t_total 1200 = true then K (150, xm_i150, xm_I150, 0, 0, 90, [(0, .ref 52), (1, .int v1), (2, .int v2), (3, .int v3), (4, .int v4), (5, .int v5), (6, .int s0)], [], xw_W (xy_a (xy_a (xy_a (xy_a (xy_a A 51 (upd t_begin t_total.toNatClampNeg v2)) 54 t_digits) 52 t_end) 53 t_first) 2 t_page_signs) L (xy_s (xy_s (xy_s S 50 6 t_now) 1 1 t_page_length) 50 5 t_total)) else none)) (fun K => rfl) ?_
    obtain ⟨hg40, h⟩ := xn_if h
    refine xe_pos hg40 (xe_k ?_)
    refine xe_seg ok 6 (G := (fun K => if xr_in t_total 1200 = true then K (150, xm_i150, xm_I150, 0, 0, 101, [(0, .ref 52), (1, .int v1), (2, .int v2), (3, .int v3), (4, .int v4), (5, .int v5), (6, .int s0)], [], xw_W (xy_a (xy_a (xy_a (xy_a (xy_a A 51 (upd t_begin t_total.toNatClampNeg v2)) 54 t_digits) 52 (upd t_end t_total.toNatClampNeg s0)) 53 t_first) 2 t_page_signs) L (xy_s (xy_s (xy_s S 50 6 t_now) 1 1 t_page_length) 50 5 t_total)) else none)) (fun K => rfl) ?_
    obtain ⟨hg41, h⟩ := xn_if h
    refine xe_pos hg41 (xe_k ?_)
    refine xe_seg ok 6 (G := (fun K => if xr_in t_total 1200 = true then K (150, xm_i150, xm_I150, 0, 0, 112, [(0, .ref 52), (1, .int v1), (2, .int v2), (3, .int v3), (4, .int v4), (5, .int v5), (6, .int s0)], [], xw_W (xy_a (xy_a (xy_a (xy_a (xy_a A 51 (upd t_begin t_total.toNatClampNeg v2)) 54 t_digits) 52 (upd t_end t_total.toNatClampNeg s0)) 53 (upd t_first t_total.toNatClampNeg (vp_nar .char v5))) 2 t_page_signs) L (xy_s (xy_s (xy_s S 50 6 t_now) 1 1 t_page_length) 50 5 t_total)) else none)) (fun K => rfl) ?_
    obtain ⟨hg42, h⟩ := xn_if h
    refine xe_pos hg42 (xe_k ?_)
    refine xe_seg ok 6 (G := (fun K => xr_back K 150 xm_i150 xm_I150 0 0 122 [(0, .ref 52), (1, .int v1), (2, .int v2), (3, .int v3), (4, .int v4), (5, .int v5), (6, .int s0)] [.int t_total, .ref 56] 78 false (K (28, xm_i28, xm_I28, 0, 0, 0, [(0, .int v5)], [], xw_W (xy_a (xy_a (xy_a (xy_a (xy_a A 51 (upd t_begin t_total.toNatClampNeg v2)) 54 t_digits) 52 (upd t_end t_total.toNatClampNeg s0)) 53 (upd t_first t_total.toNatClampNeg (vp_nar .char v5))) 2 t_page_signs) L (xy_s (xy_s (xy_s S 50 6 t_now) 1 1 t_page_length) 50 5 t_total))))) (fun K => rfl) ?_
    obtain ⟨q43, hq43, h⟩ := Option.bind_eq_some_iff.mp h
    have heq43 := xh_xt_isDigit (l := l) (g := g) ok (xy_a (xy_a (xy_a (xy_a (xy_a A 51 (upd t_begin t_total.toNatClampNeg v2)) 54 t_digits) 52 (upd t_end t_total.toNatClampNeg s0)) 53 (upd t_first t_total.toNatClampNeg (vp_nar .char v5))) 2 t_page_signs) L (xy_s (xy_s (xy_s S 50 6 t_now) 1 1 t_page_length) 50 5 t_total) v5 _ hq43
    refine xe_call1 (ws' := xw_W (xy_a (xy_a (xy_a (xy_a (xy_a A 51 (upd t_begin t_total.toNatClampNeg v2)) 54 t_digits) 52 (upd t_end t_total.toNatClampNeg s0)) 53 (upd t_first t_total.toNatClampNeg (vp_nar .char v5))) 2 t_page_signs) L (xy_s (xy_s (xy_s S 50 6 t_now) 1 1 t_page_length) 50 5 t_total)) (by decide) heq43 (Or.inl rfl) ?_
    refine xe_seg ok 1 (G := (fun K => if q43 = (0 : Int32) then K (150, xm_i150, xm_I150, 0, 0, 138, [(0, .ref 52), (1, .int v1), (2, .int v2), (3, .int v3), (4, .int v4), (5, .int v5), (6, .int s0)], [.int t_total, .ref 56], xw_W (xy_a (xy_a (xy_a (xy_a (xy_a A 51 (upd t_begin t_total.toNatClampNeg v2)) 54 t_digits) 52 (upd t_end t_total.toNatClampNeg s0)) 53 (upd t_first t_total.toNatClampNeg (vp_nar .char v5))) 2 t_page_signs) L (xy_s (xy_s (xy_s S 50 6 t_now) 1 1 t_page_length) 50 5 t_total)) else K (150, xm_i150, xm_I150, 0, 0, 128, [(0, .ref 52), (1, .int v1), (2, .int v2), (3, .int v3), (4, .int v4), (5, .int v5), (6, .int s0)], [.int t_total, .ref 56], xw_W (xy_a (xy_a (xy_a (xy_a (xy_a A 51 (upd t_begin t_total.toNatClampNeg v2)) 54 t_digits) 52 (upd t_end t_total.toNatClampNeg s0)) 53 (upd t_first t_total.toNatClampNeg (vp_nar .char v5))) 2 t_page_signs) L (xy_s (xy_s (xy_s S 50 6 t_now) 1 1 t_page_length) 50 5 t_total)))) (fun K => rfl) ?_
    rcases xb_if h with ⟨hc44, h⟩ | ⟨hc44, h⟩
    · refine xe_pos hc44 (xe_k ?_)
      refine xe_seg ok 1 (G := (fun K => K (150, xm_i150, xm_I150, 0, 0, 139, [(0, .ref 52), (1, .int v1), (2, .int v2), (3, .int v3), (4, .int v4), (5, .int v5), (6, .int s0)], [.int ((-1 : Int32)), .int t_total, .ref 56], xw_W (xy_a (xy_a (xy_a (xy_a (xy_a A 51 (upd t_begin t_total.toNatClampNeg v2)) 54 t_digits) 52 (upd t_end t_total.toNatClampNeg s0)) 53 (upd t_first t_total.toNatClampNeg (vp_nar .char v5))) 2 t_page_signs) L (xy_s (xy_s (xy_s S 50 6 t_now) 1 1 t_page_length) 50 5 t_total)))) (fun K => rfl) ?_
      refine xe_k ?_
      refine xe_sub [true, true, false, true, true, true, true] (lv' := [(0, .ref 52), (1, .int v1), (3, .int v3), (4, .int v4), (5, .int v5), (6, .int s0)]) rfl ?_
      exact xh_wd_split_50_139 ok A L S t_page_length t_page_signs hk17 n (upd t_begin t_total.toNatClampNeg v2) t_digits (upd t_end t_total.toNatClampNeg s0) (upd t_first t_total.toNatClampNeg (vp_nar .char v5)) t_now t_total v1 v3 v4 v5 s0 t_total ((-1 : Int32)) _ h
    · refine xe_neg hc44 (xe_k ?_)
      refine xe_seg ok 4 (G := (fun K => xr_back K 150 xm_i150 xm_I150 0 0 132 [(0, .ref 52), (1, .int v1), (2, .int v2), (3, .int v3), (4, .int v4), (5, .int v5), (6, .int s0)] [.int t_total, .ref 56] 78 true (K (153, xm_i153, xm_I153, 0, 0, 0, [(0, .ref 52), (1, .int v2), (2, .int s0)], [], xw_W (xy_a (xy_a (xy_a (xy_a (xy_a A 51 (upd t_begin t_total.toNatClampNeg v2)) 54 t_digits) 52 (upd t_end t_total.toNatClampNeg s0)) 53 (upd t_first t_total.toNatClampNeg (vp_nar .char v5))) 2 t_page_signs) L (xy_s (xy_s (xy_s S 50 6 t_now) 1 1 t_page_length) 50 5 t_total))))) (fun K => rfl) ?_
      obtain ⟨q49, hq49, h⟩ := Option.bind_eq_some_iff.mp h
      have heq49 := xh_wd_digitsBetween_50 (l := l) (g := g) ok (xy_a (xy_a (xy_a (xy_a (xy_a A 51 (upd t_begin t_total.toNatClampNeg v2)) 54 t_digits) 52 (upd t_end t_total.toNatClampNeg s0)) 53 (upd t_first t_total.toNatClampNeg (vp_nar .char v5))) 2 t_page_signs) L (xy_s (xy_s (xy_s S 50 6 t_now) 1 1 t_page_length) 50 5 t_total) t_page_length t_page_signs n v2 s0 _ hq49
      refine xe_call1 (ws' := xw_W (xy_a (xy_a (xy_a (xy_a (xy_a A 51 (upd t_begin t_total.toNatClampNeg v2)) 54 t_digits) 52 (upd t_end t_total.toNatClampNeg s0)) 53 (upd t_first t_total.toNatClampNeg (vp_nar .char v5))) 2 t_page_signs) L (xy_s (xy_s (xy_s S 50 6 t_now) 1 1 t_page_length) 50 5 t_total)) (by decide) heq49 (Or.inl rfl) ?_
      refine xe_seg ok 1 (G := (fun K => K (150, xm_i150, xm_I150, 0, 0, 139, [(0, .ref 52), (1, .int v1), (2, .int v2), (3, .int v3), (4, .int v4), (5, .int v5), (6, .int s0)], [.int q49, .int t_total, .ref 56], xw_W (xy_a (xy_a (xy_a (xy_a (xy_a A 51 (upd t_begin t_total.toNatClampNeg v2)) 54 t_digits) 52 (upd t_end t_total.toNatClampNeg s0)) 53 (upd t_first t_total.toNatClampNeg (vp_nar .char v5))) 2 t_page_signs) L (xy_s (xy_s (xy_s S 50 6 t_now) 1 1 t_page_length) 50 5 t_total)))) (fun K => rfl) ?_
      refine xe_k ?_
      refine xe_sub [true, true, false, true, true, true, true] (lv' := [(0, .ref 52), (1, .int v1), (3, .int v3), (4, .int v4), (5, .int v5), (6, .int s0)]) rfl ?_
      exact xh_wd_split_50_139 ok A L S t_page_length t_page_signs hk17 n (upd t_begin t_total.toNatClampNeg v2) t_digits (upd t_end t_total.toNatClampNeg s0) (upd t_first t_total.toNatClampNeg (vp_nar .char v5)) t_now t_total v1 v3 v4 v5 s0 t_total q49 _ h
theorem xh_wd_split_50_64 {l : Launch} {g : xr_G} (ok : xr_OK xm_P) (A : Nat → Nat → Int32) (L : Nat → Nat → Int64) (S : Nat → Nat → Int32) (t_page_length : Int32) (t_page_signs : (Nat → Int32)) {k17 : (Nat → Int32) → (Nat → Int32) → (Nat → Int32) → (Nat → Int32) → Int32 → Int32 → Int32 → Int32 → Int32 → Int32 → Option (Unit × (Nat → Int32) × (Nat → Int32) × (Nat → Int32) × (Nat → Int32) × Int32 × Int32)} (hk17 : ∀ (t_begin : (Nat → Int32)) (t_digits : (Nat → Int32)) (t_end : (Nat → Int32)) (t_first : (Nat → Int32)) (t_now : Int32) (t_total : Int32) (v1 : Int32) (v2 : Int32) (v3 : Int32) (v4 : Int32) (r : (Unit × (Nat → Int32) × (Nat → Int32) × (Nat → Int32) × (Nat → Int32) × Int32 × Int32)), k17 t_begin t_digits t_end t_first t_now t_total v1 v2 v3 v4 = some r → xV xm_P l g (150, xm_i150, xm_I150, 0, 0, 17, [(0, .ref 52), (1, .int v1), (2, .int v2), (3, .int v3), (4, .int v4)], [], xw_W (xy_a (xy_a (xy_a (xy_a (xy_a A 51 t_begin) 54 t_digits) 52 t_end) 53 t_first) 2 t_page_signs) L (xy_s (xy_s (xy_s S 50 6 t_now) 1 1 t_page_length) 50 5 t_total)) (.inl none, xw_W (xy_a (xy_a (xy_a (xy_a (xy_a A 51 r.2.1) 54 r.2.2.1) 52 r.2.2.2.1) 53 r.2.2.2.2.1) 2 t_page_signs) L (xy_s (xy_s (xy_s S 50 6 r.2.2.2.2.2.1) 1 1 t_page_length) 50 5 r.2.2.2.2.2.2))) (n : Nat) : ∀ (t_begin : (Nat → Int32)) (t_digits : (Nat → Int32)) (t_end : (Nat → Int32)) (t_first : (Nat → Int32)) (t_now : Int32) (t_total : Int32) (v1 : Int32) (v2 : Int32) (v3 : Int32) (v4 : Int32) (v5 : Int32) (r : (Unit × (Nat → Int32) × (Nat → Int32) × (Nat → Int32) × (Nat → Int32) × Int32 × Int32)), xf_wd_split_64 t_page_length t_page_signs k17 n t_begin t_digits t_end t_first t_now t_total v1 v2 v3 v4 v5 = some r → xV xm_P l g (150, xm_i150, xm_I150, 0, 0, 64, [(0, .ref 52), (1, .int v1), (2, .int v2), (3, .int v3), (4, .int v4), (5, .int v5)], [], xw_W (xy_a (xy_a (xy_a (xy_a (xy_a A 51 t_begin) 54 t_digits) 52 t_end) 53 t_first) 2 t_page_signs) L (xy_s (xy_s (xy_s S 50 6 t_now) 1 1 t_page_length) 50 5 t_total)) (.inl none, xw_W (xy_a (xy_a (xy_a (xy_a (xy_a A 51 r.2.1) 54 r.2.2.1) 52 r.2.2.2.1) 53 r.2.2.2.2.1) 2 t_page_signs) L (xy_s (xy_s (xy_s S 50 6 r.2.2.2.2.2.1) 1 1 t_page_length) 50 5 r.2.2.2.2.2.2)) := by
  intro t_begin t_digits t_end t_first t_now t_total v1 v2 v3 v4 v5 r h
  unfold xf_wd_split_64 at h
  refine xe_seg ok 4 (G := (fun K => xr_back K 150 xm_i150 xm_I150 0 0 68 [(0, .ref 52), (1, .int v1), (2, .int v2), (3, .int v3), (4, .int v4), (5, .int v5)] [] 78 true (K (151, xm_i151, xm_I151, 0, 0, 0, [(0, .ref 52), (1, .int v2), (2, .int v5)], [], xw_W (xy_a (xy_a (xy_a (xy_a (xy_a A 51 t_begin) 54 t_digits) 52 t_end) 53 t_first) 2 t_page_signs) L (xy_s (xy_s (xy_s S 50 6 t_now) 1 1 t_page_length) 50 5 t_total))))) (fun K => rfl) ?_
  obtain ⟨q34, hq34, h⟩ := Option.bind_eq_some_iff.mp h
  have heq34 := xh_wd_endFrom_50 (l := l) (g := g) ok (xy_a (xy_a (xy_a (xy_a (xy_a A 51 t_begin) 54 t_digits) 52 t_end) 53 t_first) 2 t_page_signs) L (xy_s (xy_s (xy_s S 50 6 t_now) 1 1 t_page_length) 50 5 t_total) t_page_length t_page_signs n v2 v5 _ hq34
  refine xe_call1 (ws' := xw_W (xy_a (xy_a (xy_a (xy_a (xy_a A 51 t_begin) 54 t_digits) 52 t_end) 53 t_first) 2 t_page_signs) L (xy_s (xy_s (xy_s S 50 6 t_now) 1 1 t_page_length) 50 5 t_total)) (by decide) heq34 (Or.inl rfl) ?_
  refine xe_sub [true, true, true, true, true, true] (lv' := [(0, .ref 52), (1, .int v1), (2, .int v2), (3, .int v3), (4, .int v4), (5, .int v5)]) rfl ?_
  exact xh_wd_split_50_71 ok A L S t_page_length t_page_signs hk17 n t_begin t_digits t_end t_first t_now t_total v1 v2 v3 v4 v5 q34 _ h
theorem xh_wd_split_50_203 {l : Launch} {g : xr_G} (ok : xr_OK xm_P) (A : Nat → Nat → Int32) (L : Nat → Nat → Int64) (S : Nat → Nat → Int32) (t_page_length : Int32) (t_page_signs : (Nat → Int32)) (n : Nat) : ∀ (t_begin : (Nat → Int32)) (t_digits : (Nat → Int32)) (t_end : (Nat → Int32)) (t_first : (Nat → Int32)) (t_now : Int32) (t_total : Int32) (r : (Unit × (Nat → Int32) × (Nat → Int32) × (Nat → Int32) × (Nat → Int32) × Int32 × Int32)), xf_wd_split_203 t_page_length t_page_signs n t_begin t_digits t_end t_first t_now t_total = some r → xV xm_P l g (150, xm_i150, xm_I150, 0, 0, 203, [], [], xw_W (xy_a (xy_a (xy_a (xy_a (xy_a A 51 t_begin) 54 t_digits) 52 t_end) 53 t_first) 2 t_page_signs) L (xy_s (xy_s (xy_s S 50 6 t_now) 1 1 t_page_length) 50 5 t_total)) (.inl none, xw_W (xy_a (xy_a (xy_a (xy_a (xy_a A 51 r.2.1) 54 r.2.2.1) 52 r.2.2.2.1) 53 r.2.2.2.2.1) 2 t_page_signs) L (xy_s (xy_s (xy_s S 50 6 r.2.2.2.2.2.1) 1 1 t_page_length) 50 5 r.2.2.2.2.2.2)) := by
  intro t_begin t_digits t_end t_first t_now t_total r h
  unfold xf_wd_split_203 at h
  obtain rfl := Option.some.inj h
  refine xe_seg ok 1 (G := (fun _ => some (.inl none, xw_W (xy_a (xy_a (xy_a (xy_a (xy_a A 51 t_begin) 54 t_digits) 52 t_end) 53 t_first) 2 t_page_signs) L (xy_s (xy_s (xy_s S 50 6 t_now) 1 1 t_page_length) 50 5 t_total)))) (fun K => rfl) ?_
  exact xe_ret
theorem xh_wd_split_50_17 {l : Launch} {g : xr_G} (ok : xr_OK xm_P) (A : Nat → Nat → Int32) (L : Nat → Nat → Int64) (S : Nat → Nat → Int32) (t_page_length : Int32) (t_page_signs : (Nat → Int32)) (n : Nat) : ∀ (N : Nat) (t_begin : (Nat → Int32)) (t_digits : (Nat → Int32)) (t_end : (Nat → Int32)) (t_first : (Nat → Int32)) (t_now : Int32) (t_total : Int32) (v1 : Int32) (v2 : Int32) (v3 : Int32) (v4 : Int32) (r : (Unit × (Nat → Int32) × (Nat → Int32) × (Nat → Int32) × (Nat → Int32) × Int32 × Int32)), xf_wd_split_17 t_page_length t_page_signs n N t_begin t_digits t_end t_first t_now t_total v1 v2 v3 v4 = some r → xV xm_P l g (150, xm_i150, xm_I150, 0, 0, 17, [(0, .ref 52), (1, .int v1), (2, .int v2), (3, .int v3), (4, .int v4)], [], xw_W (xy_a (xy_a (xy_a (xy_a (xy_a A 51 t_begin) 54 t_digits) 52 t_end) 53 t_first) 2 t_page_signs) L (xy_s (xy_s (xy_s S 50 6 t_now) 1 1 t_page_length) 50 5 t_total)) (.inl none, xw_W (xy_a (xy_a (xy_a (xy_a (xy_a A 51 r.2.1) 54 r.2.2.1) 52 r.2.2.2.1) 53 r.2.2.2.2.1) 2 t_page_signs) L (xy_s (xy_s (xy_s S 50 6 r.2.2.2.2.2.1) 1 1 t_page_length) 50 5 r.2.2.2.2.2.2)) := by
  intro N
  induction N with
  | zero => intro t_begin t_digits t_end t_first t_now t_total v1 v2 v3 v4 r h; cases h
  | succ N hk17 =>
    intro t_begin t_digits t_end t_first t_now t_total v1 v2 v3 v4 r h
    refine xe_seg ok 3 (G := (fun K => if v4 < ((1200 : Int32)) then K (150, xm_i150, xm_I150, 0, 0, 25, [(0, .ref 52), (1, .int v1), (2, .int v2), (3, .int v3), (4, .int v4)], [], xw_W (xy_a (xy_a (xy_a (xy_a (xy_a A 51 t_begin) 54 t_digits) 52 t_end) 53 t_first) 2 t_page_signs) L (xy_s (xy_s (xy_s S 50 6 t_now) 1 1 t_page_length) 50 5 t_total)) else K (150, xm_i150, xm_I150, 0, 0, 203, [(0, .ref 52), (1, .int v1), (2, .int v2), (3, .int v3), (4, .int v4)], [], xw_W (xy_a (xy_a (xy_a (xy_a (xy_a A 51 t_begin) 54 t_digits) 52 t_end) 53 t_first) 2 t_page_signs) L (xy_s (xy_s (xy_s S 50 6 t_now) 1 1 t_page_length) 50 5 t_total)))) (fun K => rfl) ?_
    rcases xb_if h with ⟨hc1, h⟩ | ⟨hc1, h⟩
    · refine xe_pos hc1 (xe_k ?_)
      refine xe_seg ok 5 (G := (fun K => if v2 < t_page_length then K (150, xm_i150, xm_I150, 0, 0, 36, [(0, .ref 52), (1, .int v1), (2, .int v2), (3, .int v3), (4, .int v4)], [], xw_W (xy_a (xy_a (xy_a (xy_a (xy_a A 51 t_begin) 54 t_digits) 52 t_end) 53 t_first) 2 t_page_signs) L (xy_s (xy_s (xy_s S 50 6 t_now) 1 1 t_page_length) 50 5 t_total)) else K (150, xm_i150, xm_I150, 0, 0, 203, [(0, .ref 52), (1, .int v1), (2, .int v2), (3, .int v3), (4, .int v4)], [], xw_W (xy_a (xy_a (xy_a (xy_a (xy_a A 51 t_begin) 54 t_digits) 52 t_end) 53 t_first) 2 t_page_signs) L (xy_s (xy_s (xy_s S 50 6 t_now) 1 1 t_page_length) 50 5 t_total)))) (fun K => rfl) ?_
      rcases xb_if h with ⟨hc2, h⟩ | ⟨hc2, h⟩
      · refine xe_pos hc2 (xe_k ?_)
        refine xe_seg ok 4 (G := (fun K => xr_back K 150 xm_i150 xm_I150 0 0 41 [(0, .ref 52), (1, .int v1), (2, .int v2), (3, .int v3), (4, .int v4)] [] 78 true (K (144, xm_i144, xm_I144, 0, 0, 0, [(0, .ref 3), (1, .int v2)], [], xw_W (xy_a (xy_a (xy_a (xy_a (xy_a A 51 t_begin) 54 t_digits) 52 t_end) 53 t_first) 2 t_page_signs) L (xy_s (xy_s (xy_s S 50 6 t_now) 1 1 t_page_length) 50 5 t_total))))) (fun K => rfl) ?_
        obtain ⟨q7, hq7, h⟩ := Option.bind_eq_some_iff.mp h
        have heq7 := xh_pg_signAt_1 (l := l) (g := g) ok (xy_a (xy_a (xy_a (xy_a (xy_a A 51 t_begin) 54 t_digits) 52 t_end) 53 t_first) 2 t_page_signs) L (xy_s (xy_s (xy_s S 50 6 t_now) 1 1 t_page_length) 50 5 t_total) t_page_length t_page_signs v2 _ hq7
        refine xe_call1 (ws' := xw_W (xy_a (xy_a (xy_a (xy_a (xy_a A 51 t_begin) 54 t_digits) 52 t_end) 53 t_first) 2 t_page_signs) L (xy_s (xy_s (xy_s S 50 6 t_now) 1 1 t_page_length) 50 5 t_total)) (by decide) heq7 (Or.inl rfl) ?_
        refine xe_seg ok 3 (G := (fun K => if v3 = (0 : Int32) then K (150, xm_i150, xm_I150, 0, 0, 64, [(0, .ref 52), (1, .int v1), (2, .int v2), (3, .int v3), (4, .int v4), (5, .int q7)], [], xw_W (xy_a (xy_a (xy_a (xy_a (xy_a A 51 t_begin) 54 t_digits) 52 t_end) 53 t_first) 2 t_page_signs) L (xy_s (xy_s (xy_s S 50 6 t_now) 1 1 t_page_length) 50 5 t_total)) else K (150, xm_i150, xm_I150, 0, 0, 50, [(0, .ref 52), (1, .int v1), (2, .int v2), (3, .int v3), (4, .int v4), (5, .int q7)], [], xw_W (xy_a (xy_a (xy_a (xy_a (xy_a A 51 t_begin) 54 t_digits) 52 t_end) 53 t_first) 2 t_page_signs) L (xy_s (xy_s (xy_s S 50 6 t_now) 1 1 t_page_length) 50 5 t_total)))) (fun K => rfl) ?_
        rcases xb_if h with ⟨hc8, h⟩ | ⟨hc8, h⟩
        · refine xe_pos hc8 (xe_k ?_)
          refine xe_sub [true, true, true, true, true, true] (lv' := [(0, .ref 52), (1, .int v1), (2, .int v2), (3, .int v3), (4, .int v4), (5, .int q7)]) rfl ?_
          exact xh_wd_split_50_64 ok A L S t_page_length t_page_signs hk17 n t_begin t_digits t_end t_first t_now t_total v1 v2 v3 v4 q7 _ h
        · refine xe_neg hc8 (xe_k ?_)
          refine xe_seg ok 2 (G := (fun K => xr_back K 150 xm_i150 xm_I150 0 0 52 [(0, .ref 52), (1, .int v1), (2, .int v2), (3, .int v3), (4, .int v4), (5, .int q7)] [] 78 false (K (29, xm_i29, xm_I29, 0, 0, 0, [(0, .int q7)], [], xw_W (xy_a (xy_a (xy_a (xy_a (xy_a A 51 t_begin) 54 t_digits) 52 t_end) 53 t_first) 2 t_page_signs) L (xy_s (xy_s (xy_s S 50 6 t_now) 1 1 t_page_length) 50 5 t_total))))) (fun K => rfl) ?_
          obtain ⟨q50, hq50, h⟩ := Option.bind_eq_some_iff.mp h
          have heq50 := xh_xt_isLetter (l := l) (g := g) ok (xy_a (xy_a (xy_a (xy_a (xy_a A 51 t_begin) 54 t_digits) 52 t_end) 53 t_first) 2 t_page_signs) L (xy_s (xy_s (xy_s S 50 6 t_now) 1 1 t_page_length) 50 5 t_total) q7 _ hq50
          refine xe_call1 (ws' := xw_W (xy_a (xy_a (xy_a (xy_a (xy_a A 51 t_begin) 54 t_digits) 52 t_end) 53 t_first) 2 t_page_signs) L (xy_s (xy_s (xy_s S 50 6 t_now) 1 1 t_page_length) 50 5 t_total)) (by decide) heq50 (Or.inl rfl) ?_
          refine xe_seg ok 1 (G := (fun K => if q50 = (0 : Int32) then K (150, xm_i150, xm_I150, 0, 0, 64, [(0, .ref 52), (1, .int v1), (2, .int v2), (3, .int v3), (4, .int v4), (5, .int q7)], [], xw_W (xy_a (xy_a (xy_a (xy_a (xy_a A 51 t_begin) 54 t_digits) 52 t_end) 53 t_first) 2 t_page_signs) L (xy_s (xy_s (xy_s S 50 6 t_now) 1 1 t_page_length) 50 5 t_total)) else K (150, xm_i150, xm_I150, 0, 0, 58, [(0, .ref 52), (1, .int v1), (2, .int v2), (3, .int v3), (4, .int v4), (5, .int q7)], [], xw_W (xy_a (xy_a (xy_a (xy_a (xy_a A 51 t_begin) 54 t_digits) 52 t_end) 53 t_first) 2 t_page_signs) L (xy_s (xy_s (xy_s S 50 6 t_now) 1 1 t_page_length) 50 5 t_total)))) (fun K => rfl) ?_
          rcases xb_if h with ⟨hc51, h⟩ | ⟨hc51, h⟩
          · refine xe_pos hc51 (xe_k ?_)
            refine xe_sub [true, true, true, true, true, true] (lv' := [(0, .ref 52), (1, .int v1), (2, .int v2), (3, .int v3), (4, .int v4), (5, .int q7)]) rfl ?_
            exact xh_wd_split_50_64 ok A L S t_page_length t_page_signs hk17 n t_begin t_digits t_end t_first t_now t_total v1 v2 v3 v4 q7 _ h
          · refine xe_neg hc51 (xe_k ?_)
            refine xe_seg ok 4 (G := (fun K => K (150, xm_i150, xm_I150, 0, 0, 71, [(0, .ref 52), (1, .int v1), (2, .int v2), (3, .int v3), (4, .int v4), (5, .int q7)], [.int (v2 + ((1 : Int32)))], xw_W (xy_a (xy_a (xy_a (xy_a (xy_a A 51 t_begin) 54 t_digits) 52 t_end) 53 t_first) 2 t_page_signs) L (xy_s (xy_s (xy_s S 50 6 t_now) 1 1 t_page_length) 50 5 t_total)))) (fun K => rfl) ?_
            refine xe_k ?_
            refine xe_sub [true, true, true, true, true, true] (lv' := [(0, .ref 52), (1, .int v1), (2, .int v2), (3, .int v3), (4, .int v4), (5, .int q7)]) rfl ?_
            exact xh_wd_split_50_71 ok A L S t_page_length t_page_signs hk17 n t_begin t_digits t_end t_first t_now t_total v1 v2 v3 v4 q7 (v2 + ((1 : Int32))) _ h
      · refine xe_neg hc2 (xe_k ?_)
        refine xe_sub [false, false, false, false, false] (lv' := []) rfl ?_
        exact xh_wd_split_50_203 ok A L S t_page_length t_page_signs n t_begin t_digits t_end t_first t_now t_total _ h
    · refine xe_neg hc1 (xe_k ?_)
      refine xe_sub [false, false, false, false, false] (lv' := []) rfl ?_
      exact xh_wd_split_50_203 ok A L S t_page_length t_page_signs n t_begin t_digits t_end t_first t_now t_total _ h
theorem xh_wd_split_50 {l : Launch} {g : xr_G} (ok : xr_OK xm_P) (A : Nat → Nat → Int32) (L : Nat → Nat → Int64) (S : Nat → Nat → Int32) (t_page_length : Int32) (t_page_signs : (Nat → Int32)) (n : Nat) : ∀ (t_begin : (Nat → Int32)) (t_digits : (Nat → Int32)) (t_end : (Nat → Int32)) (t_first : (Nat → Int32)) (t_now : Int32) (t_total : Int32) (a1 : Int32) (r : (Unit × (Nat → Int32) × (Nat → Int32) × (Nat → Int32) × (Nat → Int32) × Int32 × Int32)), xf_wd_split t_page_length t_page_signs n t_begin t_digits t_end t_first t_now t_total a1 = some r → xV xm_P l g (150, xm_i150, xm_I150, 0, 0, 0, [(0, .ref 52), (1, .int a1)], [], xw_W (xy_a (xy_a (xy_a (xy_a (xy_a A 51 t_begin) 54 t_digits) 52 t_end) 53 t_first) 2 t_page_signs) L (xy_s (xy_s (xy_s S 50 6 t_now) 1 1 t_page_length) 50 5 t_total)) (.inl none, xw_W (xy_a (xy_a (xy_a (xy_a (xy_a A 51 r.2.1) 54 r.2.2.1) 52 r.2.2.2.1) 53 r.2.2.2.2.1) 2 t_page_signs) L (xy_s (xy_s (xy_s S 50 6 r.2.2.2.2.2.1) 1 1 t_page_length) 50 5 r.2.2.2.2.2.2)) := by
  intro t_begin t_digits t_end t_first t_now t_total a1 r h
  unfold xf_wd_split at h
  refine xe_seg ok 12 (G := (fun K => K (150, xm_i150, xm_I150, 0, 0, 17, [(0, .ref 52), (1, .int a1), (2, .int ((0 : Int32))), (3, .int ((0 : Int32))), (4, .int ((0 : Int32)))], [], xw_W (xy_a (xy_a (xy_a (xy_a (xy_a A 51 t_begin) 54 t_digits) 52 t_end) 53 t_first) 2 t_page_signs) L (xy_s (xy_s (xy_s S 50 6 ((0 : Int32))) 1 1 t_page_length) 50 5 ((0 : Int32)))))) (fun K => rfl) ?_
  refine xe_k ?_
  refine xe_sub [true, true, true, true, true] (lv' := [(0, .ref 52), (1, .int a1), (2, .int ((0 : Int32))), (3, .int ((0 : Int32))), (4, .int ((0 : Int32)))]) rfl ?_
  exact xh_wd_split_50_17 ok A L S t_page_length t_page_signs n n t_begin t_digits t_end t_first ((0 : Int32)) ((0 : Int32)) a1 ((0 : Int32)) ((0 : Int32)) ((0 : Int32)) _ h
theorem xh_sr_readAll_55_49 {l : Launch} {g : xr_G} (ok : xr_OK xm_P) (A : Nat → Nat → Int32) (L : Nat → Nat → Int64) (S : Nat → Nat → Int32) (t_words_page_length : Int32) (t_words_page_signs : (Nat → Int32)) (n : Nat) : ∀ (t_kinds_mayBeNothing : (Nat → Int32)) (t_kinds_name : (Nat → Int64)) (t_kinds_size : (Nat → Int32)) (t_kinds_sort : (Nat → Int32)) (t_kinds_total : Int32) (t_words_begin : (Nat → Int32)) (t_words_digits : (Nat → Int32)) (t_words_end : (Nat → Int32)) (t_words_first : (Nat → Int32)) (t_words_now : Int32) (t_words_total : Int32) (r : (Int32 × (Nat → Int32) × (Nat → Int64) × (Nat → Int32) × (Nat → Int32) × Int32 × (Nat → Int32) × (Nat → Int32) × (Nat → Int32) × (Nat → Int32) × Int32 × Int32)), xf_sr_readAll_49 t_words_page_length t_words_page_signs n t_kinds_mayBeNothing t_kinds_name t_kinds_size t_kinds_sort t_kinds_total t_words_begin t_words_digits t_words_end t_words_first t_words_now t_words_total = some r → xV xm_P l g (147, xm_i147, xm_I147, 0, 0, 49, [], [], xw_W (xy_a (xy_a (xy_a (xy_a (xy_a (xy_a (xy_a (xy_a A 14 t_kinds_mayBeNothing) 12 t_kinds_size) 13 t_kinds_sort) 51 t_words_begin) 54 t_words_digits) 52 t_words_end) 53 t_words_first) 2 t_words_page_signs) (xy_l L 11 t_kinds_name) (xy_s (xy_s (xy_s (xy_s S 10 0 t_kinds_total) 50 6 t_words_now) 1 1 t_words_page_length) 50 5 t_words_total)) (.inl (some (.int r.1)), xw_W (xy_a (xy_a (xy_a (xy_a (xy_a (xy_a (xy_a (xy_a A 14 r.2.1) 12 r.2.2.2.1) 13 r.2.2.2.2.1) 51 r.2.2.2.2.2.2.1) 54 r.2.2.2.2.2.2.2.1) 52 r.2.2.2.2.2.2.2.2.1) 53 r.2.2.2.2.2.2.2.2.2.1) 2 t_words_page_signs) (xy_l L 11 r.2.2.1) (xy_s (xy_s (xy_s (xy_s S 10 0 r.2.2.2.2.2.1) 50 6 r.2.2.2.2.2.2.2.2.2.2.1) 1 1 t_words_page_length) 50 5 r.2.2.2.2.2.2.2.2.2.2.2)) := by
  intro t_kinds_mayBeNothing t_kinds_name t_kinds_size t_kinds_sort t_kinds_total t_words_begin t_words_digits t_words_end t_words_first t_words_now t_words_total r h
  unfold xf_sr_readAll_49 at h
  obtain rfl := Option.some.inj h
  refine xe_seg ok 2 (G := (fun _ => some (.inl (some (.int ((1 : Int32)))), xw_W (xy_a (xy_a (xy_a (xy_a (xy_a (xy_a (xy_a (xy_a A 14 t_kinds_mayBeNothing) 12 t_kinds_size) 13 t_kinds_sort) 51 t_words_begin) 54 t_words_digits) 52 t_words_end) 53 t_words_first) 2 t_words_page_signs) (xy_l L 11 t_kinds_name) (xy_s (xy_s (xy_s (xy_s S 10 0 t_kinds_total) 50 6 t_words_now) 1 1 t_words_page_length) 50 5 t_words_total)))) (fun K => rfl) ?_
  exact xe_ret
theorem xh_wd_more_50_16 {l : Launch} {g : xr_G} (ok : xr_OK xm_P) (A : Nat → Nat → Int32) (L : Nat → Nat → Int64) (S : Nat → Nat → Int32) (t_now : Int32) (t_total : Int32) : ∀ (s0 : Int32) (r : (Int32)), xf_wd_more_16 t_now t_total s0 = some r → xV xm_P l g (154, xm_i154, xm_I154, 0, 0, 16, [], [.int s0], xw_W A L (xy_s (xy_s S 50 6 t_now) 50 5 t_total)) (.inl (some (.int r)), xw_W A L (xy_s (xy_s S 50 6 t_now) 50 5 t_total)) := by
  intro s0 r h
  unfold xf_wd_more_16 at h
  refine xe_seg ok 1 (G := (fun _ => if fits .boolean (.int s0) = true then some (.inl (some (.int s0)), xw_W A L (xy_s (xy_s S 50 6 t_now) 50 5 t_total)) else none)) (fun K => rfl) ?_
  obtain ⟨hg55, h⟩ := xn_if h
  obtain rfl := Option.some.inj h
  exact xe_pos (A := fun _ => some (.inl (some (.int s0)), xw_W A L (xy_s (xy_s S 50 6 t_now) 50 5 t_total))) (B := fun _ => none) hg55 xe_ret
theorem xh_wd_more_50 {l : Launch} {g : xr_G} (ok : xr_OK xm_P) (A : Nat → Nat → Int32) (L : Nat → Nat → Int64) (S : Nat → Nat → Int32) (t_now : Int32) (t_total : Int32) : ∀  (r : (Int32)), xf_wd_more t_now t_total  = some r → xV xm_P l g (154, xm_i154, xm_I154, 0, 0, 0, [(0, .ref 52)], [], xw_W A L (xy_s (xy_s S 50 6 t_now) 50 5 t_total)) (.inl (some (.int r)), xw_W A L (xy_s (xy_s S 50 6 t_now) 50 5 t_total)) := by
  intro  r h
  unfold xf_wd_more at h
  refine xe_seg ok 5 (G := (fun K => if t_now < t_total then K (154, xm_i154, xm_I154, 0, 0, 11, [(0, .ref 52)], [], xw_W A L (xy_s (xy_s S 50 6 t_now) 50 5 t_total)) else K (154, xm_i154, xm_I154, 0, 0, 15, [(0, .ref 52)], [], xw_W A L (xy_s (xy_s S 50 6 t_now) 50 5 t_total)))) (fun K => rfl) ?_
  rcases xb_if h with ⟨hc54, h⟩ | ⟨hc54, h⟩
  · refine xe_pos hc54 (xe_k ?_)
    refine xe_seg ok 2 (G := (fun K => K (154, xm_i154, xm_I154, 0, 0, 16, [(0, .ref 52)], [.int ((1 : Int32))], xw_W A L (xy_s (xy_s S 50 6 t_now) 50 5 t_total)))) (fun K => rfl) ?_
    refine xe_k ?_
    refine xe_sub [false] (lv' := []) rfl ?_
    exact xh_wd_more_50_16 ok A L S t_now t_total ((1 : Int32)) _ h
  · refine xe_neg hc54 (xe_k ?_)
    refine xe_seg ok 1 (G := (fun K => K (154, xm_i154, xm_I154, 0, 0, 16, [(0, .ref 52)], [.int ((0 : Int32))], xw_W A L (xy_s (xy_s S 50 6 t_now) 50 5 t_total)))) (fun K => rfl) ?_
    refine xe_k ?_
    refine xe_sub [false] (lv' := []) rfl ?_
    exact xh_wd_more_50_16 ok A L S t_now t_total ((0 : Int32)) _ h
theorem xh_wd_ahead_50_24 {l : Launch} {g : xr_G} (ok : xr_OK xm_P) (A : Nat → Nat → Int32) (L : Nat → Nat → Int64) (S : Nat → Nat → Int32) (t_first : (Nat → Int32)) (t_now : Int32) (t_total : Int32) : ∀ (s0 : Int32) (r : (Int32)), xf_wd_ahead_24 t_first t_now t_total s0 = some r → xV xm_P l g (156, xm_i156, xm_I156, 0, 0, 24, [], [.int s0], xw_W (xy_a A 53 t_first) L (xy_s (xy_s S 50 6 t_now) 50 5 t_total)) (.inl (some (.int r)), xw_W (xy_a A 53 t_first) L (xy_s (xy_s S 50 6 t_now) 50 5 t_total)) := by
  intro s0 r h
  unfold xf_wd_ahead_24 at h
  refine xe_seg ok 1 (G := (fun _ => if fits .char (.int s0) = true then some (.inl (some (.int s0)), xw_W (xy_a A 53 t_first) L (xy_s (xy_s S 50 6 t_now) 50 5 t_total)) else none)) (fun K => rfl) ?_
  obtain ⟨hg60, h⟩ := xn_if h
  obtain rfl := Option.some.inj h
  exact xe_pos (A := fun _ => some (.inl (some (.int s0)), xw_W (xy_a A 53 t_first) L (xy_s (xy_s S 50 6 t_now) 50 5 t_total))) (B := fun _ => none) hg60 xe_ret
theorem xh_wd_ahead_50 {l : Launch} {g : xr_G} (ok : xr_OK xm_P) (A : Nat → Nat → Int32) (L : Nat → Nat → Int64) (S : Nat → Nat → Int32) (t_first : (Nat → Int32)) (t_now : Int32) (t_total : Int32) : ∀  (r : (Int32)), xf_wd_ahead t_first t_now t_total  = some r → xV xm_P l g (156, xm_i156, xm_I156, 0, 0, 0, [(0, .ref 52)], [], xw_W (xy_a A 53 t_first) L (xy_s (xy_s S 50 6 t_now) 50 5 t_total)) (.inl (some (.int r)), xw_W (xy_a A 53 t_first) L (xy_s (xy_s S 50 6 t_now) 50 5 t_total)) := by
  intro  r h
  unfold xf_wd_ahead at h
  refine xe_seg ok 5 (G := (fun K => if t_now < t_total then K (156, xm_i156, xm_I156, 0, 0, 11, [(0, .ref 52)], [], xw_W (xy_a A 53 t_first) L (xy_s (xy_s S 50 6 t_now) 50 5 t_total)) else K (156, xm_i156, xm_I156, 0, 0, 23, [(0, .ref 52)], [], xw_W (xy_a A 53 t_first) L (xy_s (xy_s S 50 6 t_now) 50 5 t_total)))) (fun K => rfl) ?_
  rcases xb_if h with ⟨hc58, h⟩ | ⟨hc58, h⟩
  · refine xe_pos hc58 (xe_k ?_)
    refine xe_seg ok 5 (G := (fun K => if xr_in t_now 1200 = true then K (156, xm_i156, xm_I156, 0, 0, 20, [(0, .ref 52)], [.int (t_first t_now.toNatClampNeg)], xw_W (xy_a A 53 t_first) L (xy_s (xy_s S 50 6 t_now) 50 5 t_total)) else none)) (fun K => rfl) ?_
    obtain ⟨hg59, h⟩ := xn_if h
    refine xe_pos hg59 (xe_k ?_)
    refine xe_seg ok 1 (G := (fun K => K (156, xm_i156, xm_I156, 0, 0, 24, [(0, .ref 52)], [.int (t_first t_now.toNatClampNeg)], xw_W (xy_a A 53 t_first) L (xy_s (xy_s S 50 6 t_now) 50 5 t_total)))) (fun K => rfl) ?_
    refine xe_k ?_
    refine xe_sub [false] (lv' := []) rfl ?_
    exact xh_wd_ahead_50_24 ok A L S t_first t_now t_total (t_first t_now.toNatClampNeg) _ h
  · refine xe_neg hc58 (xe_k ?_)
    refine xe_seg ok 1 (G := (fun K => K (156, xm_i156, xm_I156, 0, 0, 24, [(0, .ref 52)], [.int ((0 : Int32))], xw_W (xy_a A 53 t_first) L (xy_s (xy_s S 50 6 t_now) 50 5 t_total)))) (fun K => rfl) ?_
    refine xe_k ?_
    refine xe_sub [false] (lv' := []) rfl ?_
    exact xh_wd_ahead_50_24 ok A L S t_first t_now t_total ((0 : Int32)) _ h
theorem xh_wd_nameAhead_50_34 {l : Launch} {g : xr_G} (ok : xr_OK xm_P) (A : Nat → Nat → Int32) (L : Nat → Nat → Int64) (S : Nat → Nat → Int32) (t_begin : (Nat → Int32)) (t_end : (Nat → Int32)) (t_first : (Nat → Int32)) (t_now : Int32) (t_page_length : Int32) (t_page_signs : (Nat → Int32)) (t_total : Int32) (n : Nat) : ∀  (r : (Int64)), xf_wd_nameAhead_34 t_begin t_end t_first t_now t_page_length t_page_signs t_total n  = some r → xV xm_P l g (159, xm_i159, xm_I159, 0, 0, 34, [], [], xw_W (xy_a (xy_a (xy_a (xy_a A 51 t_begin) 52 t_end) 53 t_first) 2 t_page_signs) L (xy_s (xy_s (xy_s S 50 6 t_now) 1 1 t_page_length) 50 5 t_total)) (.inl (some (.long r)), xw_W (xy_a (xy_a (xy_a (xy_a A 51 t_begin) 52 t_end) 53 t_first) 2 t_page_signs) L (xy_s (xy_s (xy_s S 50 6 t_now) 1 1 t_page_length) 50 5 t_total)) := by
  intro  r h
  unfold xf_wd_nameAhead_34 at h
  obtain rfl := Option.some.inj h
  refine xe_seg ok 2 (G := (fun _ => some (.inl (some (.long ((0 : Int64)))), xw_W (xy_a (xy_a (xy_a (xy_a A 51 t_begin) 52 t_end) 53 t_first) 2 t_page_signs) L (xy_s (xy_s (xy_s S 50 6 t_now) 1 1 t_page_length) 50 5 t_total)))) (fun K => rfl) ?_
  exact xe_ret
theorem xh_wd_nameAhead_50_48 {l : Launch} {g : xr_G} (ok : xr_OK xm_P) (A : Nat → Nat → Int32) (L : Nat → Nat → Int64) (S : Nat → Nat → Int32) (t_begin : (Nat → Int32)) (t_end : (Nat → Int32)) (t_first : (Nat → Int32)) (t_now : Int32) (t_page_length : Int32) (t_page_signs : (Nat → Int32)) (t_total : Int32) (n : Nat) : ∀ (N : Nat) (v1 : Int64) (v3 : Int32) (r : (Int64)), xf_wd_nameAhead_48 t_begin t_end t_first t_now t_page_length t_page_signs t_total n N v1 v3 = some r → xV xm_P l g (159, xm_i159, xm_I159, 0, 0, 48, [(0, .ref 52), (1, .long v1), (3, .int v3)], [], xw_W (xy_a (xy_a (xy_a (xy_a A 51 t_begin) 52 t_end) 53 t_first) 2 t_page_signs) L (xy_s (xy_s (xy_s S 50 6 t_now) 1 1 t_page_length) 50 5 t_total)) (.inl (some (.long r)), xw_W (xy_a (xy_a (xy_a (xy_a A 51 t_begin) 52 t_end) 53 t_first) 2 t_page_signs) L (xy_s (xy_s (xy_s S 50 6 t_now) 1 1 t_page_length) 50 5 t_total)) := by
  intro N
  induction N with
  | zero => intro v1 v3 r h; cases h
  | succ N hk48 =>
    intro v1 v3 r h
    refine xe_seg ok 6 (G := (fun K => if xr_in t_now 1200 = true then K (159, xm_i159, xm_I159, 0, 0, 58, [(0, .ref 52), (1, .long v1), (3, .int v3)], [.int (t_end t_now.toNatClampNeg), .int v3], xw_W (xy_a (xy_a (xy_a (xy_a A 51 t_begin) 52 t_end) 53 t_first) 2 t_page_signs) L (xy_s (xy_s (xy_s S 50 6 t_now) 1 1 t_page_length) 50 5 t_total)) else none)) (fun K => rfl) ?_
    obtain ⟨hg68, h⟩ := xn_if h
    refine xe_pos hg68 (xe_k ?_)
    refine xe_seg ok 1 (G := (fun K => if v3 < (t_end t_now.toNatClampNeg) then K (159, xm_i159, xm_I159, 0, 0, 61, [(0, .ref 52), (1, .long v1), (3, .int v3)], [], xw_W (xy_a (xy_a (xy_a (xy_a A 51 t_begin) 52 t_end) 53 t_first) 2 t_page_signs) L (xy_s (xy_s (xy_s S 50 6 t_now) 1 1 t_page_length) 50 5 t_total)) else K (159, xm_i159, xm_I159, 0, 0, 82, [(0, .ref 52), (1, .long v1), (3, .int v3)], [], xw_W (xy_a (xy_a (xy_a (xy_a A 51 t_begin) 52 t_end) 53 t_first) 2 t_page_signs) L (xy_s (xy_s (xy_s S 50 6 t_now) 1 1 t_page_length) 50 5 t_total)))) (fun K => rfl) ?_
    rcases xb_if h with ⟨hc69, h⟩ | ⟨hc69, h⟩
    · refine xe_pos hc69 (xe_k ?_)
      refine xe_seg ok 7 (G := (fun K => xr_back K 159 xm_i159 xm_I159 0 0 70 [(0, .ref 52), (1, .long v1), (3, .int v3)] [.long (xe_shl v1 ((8 : Int32)))] 78 true (K (144, xm_i144, xm_I144, 0, 0, 0, [(0, .ref 3), (1, .int v3)], [], xw_W (xy_a (xy_a (xy_a (xy_a A 51 t_begin) 52 t_end) 53 t_first) 2 t_page_signs) L (xy_s (xy_s (xy_s S 50 6 t_now) 1 1 t_page_length) 50 5 t_total))))) (fun K => rfl) ?_
      obtain ⟨q70, hq70, h⟩ := Option.bind_eq_some_iff.mp h
      have heq70 := xh_pg_signAt_1 (l := l) (g := g) ok (xy_a (xy_a (xy_a (xy_a A 51 t_begin) 52 t_end) 53 t_first) 2 t_page_signs) L (xy_s (xy_s (xy_s S 50 6 t_now) 1 1 t_page_length) 50 5 t_total) t_page_length t_page_signs v3 _ hq70
      refine xe_call1 (ws' := xw_W (xy_a (xy_a (xy_a (xy_a A 51 t_begin) 52 t_end) 53 t_first) 2 t_page_signs) L (xy_s (xy_s (xy_s S 50 6 t_now) 1 1 t_page_length) 50 5 t_total)) (by decide) heq70 (Or.inl rfl) ?_
      refine xe_seg ok 5 (G := (fun K => K (159, xm_i159, xm_I159, 0, 0, 48, [(0, .ref 52), (1, .long ((xe_shl v1 ((8 : Int32))) ||| q70.toInt64)), (3, .int (v3 + (1 : Int32)))], [], xw_W (xy_a (xy_a (xy_a (xy_a A 51 t_begin) 52 t_end) 53 t_first) 2 t_page_signs) L (xy_s (xy_s (xy_s S 50 6 t_now) 1 1 t_page_length) 50 5 t_total)))) (fun K => rfl) ?_
      refine xe_k ?_
      refine xe_sub [true, true, true] (lv' := [(0, .ref 52), (1, .long ((xe_shl v1 ((8 : Int32))) ||| q70.toInt64)), (3, .int (v3 + (1 : Int32)))]) rfl ?_
      exact hk48 ((xe_shl v1 ((8 : Int32))) ||| q70.toInt64) (v3 + (1 : Int32)) _ h
    · refine xe_neg hc69 (xe_k ?_)
      obtain rfl := Option.some.inj h
      refine xe_seg ok 2 (G := (fun _ => some (.inl (some (.long v1)), xw_W (xy_a (xy_a (xy_a (xy_a A 51 t_begin) 52 t_end) 53 t_first) 2 t_page_signs) L (xy_s (xy_s (xy_s S 50 6 t_now) 1 1 t_page_length) 50 5 t_total)))) (fun K => rfl) ?_
      exact xe_ret
theorem xh_wd_nameAhead_50 {l : Launch} {g : xr_G} (ok : xr_OK xm_P) (A : Nat → Nat → Int32) (L : Nat → Nat → Int64) (S : Nat → Nat → Int32) (t_begin : (Nat → Int32)) (t_end : (Nat → Int32)) (t_first : (Nat → Int32)) (t_now : Int32) (t_page_length : Int32) (t_page_signs : (Nat → Int32)) (t_total : Int32) (n : Nat) : ∀  (r : (Int64)), xf_wd_nameAhead t_begin t_end t_first t_now t_page_length t_page_signs t_total n  = some r → xV xm_P l g (159, xm_i159, xm_I159, 0, 0, 0, [(0, .ref 52)], [], xw_W (xy_a (xy_a (xy_a (xy_a A 51 t_begin) 52 t_end) 53 t_first) 2 t_page_signs) L (xy_s (xy_s (xy_s S 50 6 t_now) 1 1 t_page_length) 50 5 t_total)) (.inl (some (.long r)), xw_W (xy_a (xy_a (xy_a (xy_a A 51 t_begin) 52 t_end) 53 t_first) 2 t_page_signs) L (xy_s (xy_s (xy_s S 50 6 t_now) 1 1 t_page_length) 50 5 t_total)) := by
  intro  r h
  unfold xf_wd_nameAhead at h
  refine xe_seg ok 2 (G := (fun K => xr_back K 159 xm_i159 xm_I159 0 0 1 [(0, .ref 52)] [] 78 true (K (156, xm_i156, xm_I156, 0, 0, 0, [(0, .ref 52)], [], xw_W (xy_a (xy_a (xy_a (xy_a A 51 t_begin) 52 t_end) 53 t_first) 2 t_page_signs) L (xy_s (xy_s (xy_s S 50 6 t_now) 1 1 t_page_length) 50 5 t_total))))) (fun K => rfl) ?_
  obtain ⟨q61, hq61, h⟩ := Option.bind_eq_some_iff.mp h
  have heq61 := xh_wd_ahead_50 (l := l) (g := g) ok (xy_a (xy_a (xy_a (xy_a A 51 t_begin) 52 t_end) 53 t_first) 2 t_page_signs) L (xy_s (xy_s (xy_s S 50 6 t_now) 1 1 t_page_length) 50 5 t_total) t_first t_now t_total _ hq61
  refine xe_call1 (ws' := xw_W (xy_a (xy_a (xy_a (xy_a A 51 t_begin) 52 t_end) 53 t_first) 2 t_page_signs) L (xy_s (xy_s (xy_s S 50 6 t_now) 1 1 t_page_length) 50 5 t_total)) (by decide) heq61 (Or.inl rfl) ?_
  refine xe_seg ok 1 (G := (fun K => xr_back K 159 xm_i159 xm_I159 0 0 4 [(0, .ref 52)] [] 78 false (K (29, xm_i29, xm_I29, 0, 0, 0, [(0, .int q61)], [], xw_W (xy_a (xy_a (xy_a (xy_a A 51 t_begin) 52 t_end) 53 t_first) 2 t_page_signs) L (xy_s (xy_s (xy_s S 50 6 t_now) 1 1 t_page_length) 50 5 t_total))))) (fun K => rfl) ?_
  obtain ⟨q62, hq62, h⟩ := Option.bind_eq_some_iff.mp h
  have heq62 := xh_xt_isLetter (l := l) (g := g) ok (xy_a (xy_a (xy_a (xy_a A 51 t_begin) 52 t_end) 53 t_first) 2 t_page_signs) L (xy_s (xy_s (xy_s S 50 6 t_now) 1 1 t_page_length) 50 5 t_total) q61 _ hq62
  refine xe_call1 (ws' := xw_W (xy_a (xy_a (xy_a (xy_a A 51 t_begin) 52 t_end) 53 t_first) 2 t_page_signs) L (xy_s (xy_s (xy_s S 50 6 t_now) 1 1 t_page_length) 50 5 t_total)) (by decide) heq62 (Or.inl rfl) ?_
  refine xe_seg ok 1 (G := (fun K => if q62 = (0 : Int32) then K (159, xm_i159, xm_I159, 0, 0, 34, [(0, .ref 52)], [], xw_W (xy_a (xy_a (xy_a (xy_a A 51 t_begin) 52 t_end) 53 t_first) 2 t_page_signs) L (xy_s (xy_s (xy_s S 50 6 t_now) 1 1 t_page_length) 50 5 t_total)) else K (159, xm_i159, xm_I159, 0, 0, 10, [(0, .ref 52)], [], xw_W (xy_a (xy_a (xy_a (xy_a A 51 t_begin) 52 t_end) 53 t_first) 2 t_page_signs) L (xy_s (xy_s (xy_s S 50 6 t_now) 1 1 t_page_length) 50 5 t_total)))) (fun K => rfl) ?_
  rcases xb_if h with ⟨hc63, h⟩ | ⟨hc63, h⟩
  · refine xe_pos hc63 (xe_k ?_)
    refine xe_sub [false] (lv' := []) rfl ?_
    exact xh_wd_nameAhead_50_34 ok A L S t_begin t_end t_first t_now t_page_length t_page_signs t_total n _ h
  · refine xe_neg hc63 (xe_k ?_)
    refine xe_seg ok 5 (G := (fun K => if xr_in t_now 1200 = true then K (159, xm_i159, xm_I159, 0, 0, 19, [(0, .ref 52)], [.int (t_end t_now.toNatClampNeg)], xw_W (xy_a (xy_a (xy_a (xy_a A 51 t_begin) 52 t_end) 53 t_first) 2 t_page_signs) L (xy_s (xy_s (xy_s S 50 6 t_now) 1 1 t_page_length) 50 5 t_total)) else none)) (fun K => rfl) ?_
    obtain ⟨hg64, h⟩ := xn_if h
    refine xe_pos hg64 (xe_k ?_)
    refine xe_seg ok 5 (G := (fun K => if xr_in t_now 1200 = true then K (159, xm_i159, xm_I159, 0, 0, 28, [(0, .ref 52)], [.int (t_begin t_now.toNatClampNeg), .int (t_end t_now.toNatClampNeg)], xw_W (xy_a (xy_a (xy_a (xy_a A 51 t_begin) 52 t_end) 53 t_first) 2 t_page_signs) L (xy_s (xy_s (xy_s S 50 6 t_now) 1 1 t_page_length) 50 5 t_total)) else none)) (fun K => rfl) ?_
    obtain ⟨hg65, h⟩ := xn_if h
    refine xe_pos hg65 (xe_k ?_)
    refine xe_seg ok 3 (G := (fun K => if ((8 : Int32)) < ((t_end t_now.toNatClampNeg) - (t_begin t_now.toNatClampNeg)) then K (159, xm_i159, xm_I159, 0, 0, 34, [(0, .ref 52)], [], xw_W (xy_a (xy_a (xy_a (xy_a A 51 t_begin) 52 t_end) 53 t_first) 2 t_page_signs) L (xy_s (xy_s (xy_s S 50 6 t_now) 1 1 t_page_length) 50 5 t_total)) else K (159, xm_i159, xm_I159, 0, 0, 36, [(0, .ref 52)], [], xw_W (xy_a (xy_a (xy_a (xy_a A 51 t_begin) 52 t_end) 53 t_first) 2 t_page_signs) L (xy_s (xy_s (xy_s S 50 6 t_now) 1 1 t_page_length) 50 5 t_total)))) (fun K => rfl) ?_
    rcases xb_if h with ⟨hc66, h⟩ | ⟨hc66, h⟩
    · refine xe_pos hc66 (xe_k ?_)
      refine xe_sub [false] (lv' := []) rfl ?_
      exact xh_wd_nameAhead_50_34 ok A L S t_begin t_end t_first t_now t_page_length t_page_signs t_total n _ h
    · refine xe_neg hc66 (xe_k ?_)
      refine xe_seg ok 7 (G := (fun K => if xr_in t_now 1200 = true then K (159, xm_i159, xm_I159, 0, 0, 47, [(0, .ref 52), (1, .long ((0 : Int64)))], [.int (t_begin t_now.toNatClampNeg)], xw_W (xy_a (xy_a (xy_a (xy_a A 51 t_begin) 52 t_end) 53 t_first) 2 t_page_signs) L (xy_s (xy_s (xy_s S 50 6 t_now) 1 1 t_page_length) 50 5 t_total)) else none)) (fun K => rfl) ?_
      obtain ⟨hg67, h⟩ := xn_if h
      refine xe_pos hg67 (xe_k ?_)
      refine xe_seg ok 1 (G := (fun K => K (159, xm_i159, xm_I159, 0, 0, 48, [(0, .ref 52), (1, .long ((0 : Int64))), (3, .int (t_begin t_now.toNatClampNeg))], [], xw_W (xy_a (xy_a (xy_a (xy_a A 51 t_begin) 52 t_end) 53 t_first) 2 t_page_signs) L (xy_s (xy_s (xy_s S 50 6 t_now) 1 1 t_page_length) 50 5 t_total)))) (fun K => rfl) ?_
      refine xe_k ?_
      refine xe_sub [true, true, true] (lv' := [(0, .ref 52), (1, .long ((0 : Int64))), (3, .int (t_begin t_now.toNatClampNeg))]) rfl ?_
      exact xh_wd_nameAhead_50_48 ok A L S t_begin t_end t_first t_now t_page_length t_page_signs t_total n n ((0 : Int64)) (t_begin t_now.toNatClampNeg) _ h
theorem xh_sr_readKind_55_38 {l : Launch} {g : xr_G} (ok : xr_OK xm_P) (A : Nat → Nat → Int32) (L : Nat → Nat → Int64) (S : Nat → Nat → Int32) (t_words_begin : (Nat → Int32)) (t_words_end : (Nat → Int32)) (t_words_first : (Nat → Int32)) (t_words_page_length : Int32) (t_words_page_signs : (Nat → Int32)) (t_words_total : Int32) (n : Nat) : ∀ (t_kinds_mayBeNothing : (Nat → Int32)) (t_kinds_name : (Nat → Int64)) (t_kinds_size : (Nat → Int32)) (t_kinds_sort : (Nat → Int32)) (t_kinds_total : Int32) (t_words_now : Int32) (r : (Int32 × (Nat → Int32) × (Nat → Int64) × (Nat → Int32) × (Nat → Int32) × Int32 × Int32)), xf_sr_readKind_38 t_words_begin t_words_end t_words_first t_words_page_length t_words_page_signs t_words_total n t_kinds_mayBeNothing t_kinds_name t_kinds_size t_kinds_sort t_kinds_total t_words_now = some r → xV xm_P l g (148, xm_i148, xm_I148, 0, 0, 38, [], [], xw_W (xy_a (xy_a (xy_a (xy_a (xy_a (xy_a (xy_a A 14 t_kinds_mayBeNothing) 12 t_kinds_size) 13 t_kinds_sort) 51 t_words_begin) 52 t_words_end) 53 t_words_first) 2 t_words_page_signs) (xy_l L 11 t_kinds_name) (xy_s (xy_s (xy_s (xy_s S 10 0 t_kinds_total) 50 6 t_words_now) 1 1 t_words_page_length) 50 5 t_words_total)) (.inl (some (.int r.1)), xw_W (xy_a (xy_a (xy_a (xy_a (xy_a (xy_a (xy_a A 14 r.2.1) 12 r.2.2.2.1) 13 r.2.2.2.2.1) 51 t_words_begin) 52 t_words_end) 53 t_words_first) 2 t_words_page_signs) (xy_l L 11 r.2.2.1) (xy_s (xy_s (xy_s (xy_s S 10 0 r.2.2.2.2.2.1) 50 6 r.2.2.2.2.2.2) 1 1 t_words_page_length) 50 5 t_words_total)) := by
  intro t_kinds_mayBeNothing t_kinds_name t_kinds_size t_kinds_sort t_kinds_total t_words_now r h
  unfold xf_sr_readKind_38 at h
  obtain rfl := Option.some.inj h
  refine xe_seg ok 2 (G := (fun _ => some (.inl (some (.int ((0 : Int32)))), xw_W (xy_a (xy_a (xy_a (xy_a (xy_a (xy_a (xy_a A 14 t_kinds_mayBeNothing) 12 t_kinds_size) 13 t_kinds_sort) 51 t_words_begin) 52 t_words_end) 53 t_words_first) 2 t_words_page_signs) (xy_l L 11 t_kinds_name) (xy_s (xy_s (xy_s (xy_s S 10 0 t_kinds_total) 50 6 t_words_now) 1 1 t_words_page_length) 50 5 t_words_total)))) (fun K => rfl) ?_
  exact xe_ret
theorem xh_kd_find_10_2 {l : Launch} {g : xr_G} (ok : xr_OK xm_P) (A : Nat → Nat → Int32) (L : Nat → Nat → Int64) (S : Nat → Nat → Int32) (t_name : (Nat → Int64)) (t_total : Int32) (n : Nat) : ∀ (N : Nat) (v1 : Int64) (v3 : Int32) (r : (Int32)), xf_kd_find_2 t_name t_total n N v1 v3 = some r → xV xm_P l g (103, xm_i103, xm_I103, 0, 0, 2, [(0, .ref 12), (1, .long v1), (3, .int v3)], [], xw_W A (xy_l L 11 t_name) (xy_s S 10 0 t_total)) (.inl (some (.int r)), xw_W A (xy_l L 11 t_name) (xy_s S 10 0 t_total)) := by
  intro N
  induction N with
  | zero => intro v1 v3 r h; cases h
  | succ N hk2 =>
    intro v1 v3 r h
    refine xe_seg ok 4 (G := (fun K => if v3 < t_total then K (103, xm_i103, xm_I103, 0, 0, 10, [(0, .ref 12), (1, .long v1), (3, .int v3)], [], xw_W A (xy_l L 11 t_name) (xy_s S 10 0 t_total)) else K (103, xm_i103, xm_I103, 0, 0, 29, [(0, .ref 12), (1, .long v1), (3, .int v3)], [], xw_W A (xy_l L 11 t_name) (xy_s S 10 0 t_total)))) (fun K => rfl) ?_
    rcases xb_if h with ⟨hc74, h⟩ | ⟨hc74, h⟩
    · refine xe_pos hc74 (xe_k ?_)
      refine xe_seg ok 4 (G := (fun K => if xr_in v3 12 = true then K (103, xm_i103, xm_I103, 0, 0, 16, [(0, .ref 12), (1, .long v1), (3, .int v3)], [.long (t_name v3.toNatClampNeg)], xw_W A (xy_l L 11 t_name) (xy_s S 10 0 t_total)) else none)) (fun K => rfl) ?_
      obtain ⟨hg75, h⟩ := xn_if h
      refine xe_pos hg75 (xe_k ?_)
      refine xe_seg ok 3 (G := (fun K => if (lg_cmp (t_name v3.toNatClampNeg) v1) = (0 : Int32) then K (103, xm_i103, xm_I103, 0, 0, 21, [(0, .ref 12), (1, .long v1), (3, .int v3)], [], xw_W A (xy_l L 11 t_name) (xy_s S 10 0 t_total)) else K (103, xm_i103, xm_I103, 0, 0, 23, [(0, .ref 12), (1, .long v1), (3, .int v3)], [], xw_W A (xy_l L 11 t_name) (xy_s S 10 0 t_total)))) (fun K => rfl) ?_
      rcases xb_if h with ⟨hc76, h⟩ | ⟨hc76, h⟩
      · refine xe_pos hc76 (xe_k ?_)
        obtain rfl := Option.some.inj h
        refine xe_seg ok 2 (G := (fun _ => some (.inl (some (.int v3)), xw_W A (xy_l L 11 t_name) (xy_s S 10 0 t_total)))) (fun K => rfl) ?_
        exact xe_ret
      · refine xe_neg hc76 (xe_k ?_)
        refine xe_seg ok 2 (G := (fun K => K (103, xm_i103, xm_I103, 0, 0, 2, [(0, .ref 12), (1, .long v1), (3, .int (v3 + (1 : Int32)))], [], xw_W A (xy_l L 11 t_name) (xy_s S 10 0 t_total)))) (fun K => rfl) ?_
        refine xe_k ?_
        refine xe_sub [true, true, true] (lv' := [(0, .ref 12), (1, .long v1), (3, .int (v3 + (1 : Int32)))]) rfl ?_
        exact hk2 v1 (v3 + (1 : Int32)) _ h
    · refine xe_neg hc74 (xe_k ?_)
      obtain rfl := Option.some.inj h
      refine xe_seg ok 2 (G := (fun _ => some (.inl (some (.int ((-1 : Int32)))), xw_W A (xy_l L 11 t_name) (xy_s S 10 0 t_total)))) (fun K => rfl) ?_
      exact xe_ret
theorem xh_kd_find_10 {l : Launch} {g : xr_G} (ok : xr_OK xm_P) (A : Nat → Nat → Int32) (L : Nat → Nat → Int64) (S : Nat → Nat → Int32) (t_name : (Nat → Int64)) (t_total : Int32) (n : Nat) : ∀ (a1 : Int64) (r : (Int32)), xf_kd_find t_name t_total n a1 = some r → xV xm_P l g (103, xm_i103, xm_I103, 0, 0, 0, [(0, .ref 12), (1, .long a1)], [], xw_W A (xy_l L 11 t_name) (xy_s S 10 0 t_total)) (.inl (some (.int r)), xw_W A (xy_l L 11 t_name) (xy_s S 10 0 t_total)) := by
  intro a1 r h
  unfold xf_kd_find at h
  refine xe_seg ok 2 (G := (fun K => K (103, xm_i103, xm_I103, 0, 0, 2, [(0, .ref 12), (1, .long a1), (3, .int ((0 : Int32)))], [], xw_W A (xy_l L 11 t_name) (xy_s S 10 0 t_total)))) (fun K => rfl) ?_
  refine xe_k ?_
  refine xe_sub [true, true, true] (lv' := [(0, .ref 12), (1, .long a1), (3, .int ((0 : Int32)))]) rfl ?_
  exact xh_kd_find_10_2 ok A L S t_name t_total n n a1 ((0 : Int32)) _ h
theorem xh_wd_step_50 {l : Launch} {g : xr_G} (ok : xr_OK xm_P) (A : Nat → Nat → Int32) (L : Nat → Nat → Int64) (S : Nat → Nat → Int32) : ∀ (t_now : Int32) (r : (Unit × Int32)), xf_wd_step  t_now = some r → xV xm_P l g (157, xm_i157, xm_I157, 0, 0, 0, [(0, .ref 52)], [], xw_W A L (xy_s S 50 6 t_now)) (.inl none, xw_W A L (xy_s S 50 6 r.2)) := by
  intro t_now r h
  unfold xf_wd_step at h
  obtain rfl := Option.some.inj h
  refine xe_seg ok 7 (G := (fun _ => some (.inl none, xw_W A L (xy_s S 50 6 (t_now + ((1 : Int32))))))) (fun K => rfl) ?_
  exact xe_ret
theorem xh_kd_addKind_10_39 {l : Launch} {g : xr_G} (ok : xr_OK xm_P) (A : Nat → Nat → Int32) (L : Nat → Nat → Int64) (S : Nat → Nat → Int32) : ∀ (t_name : (Nat → Int64)) (t_size : (Nat → Int32)) (t_total : Int32) (r : (Unit × (Nat → Int64) × (Nat → Int32) × Int32)), xf_kd_addKind_39  t_name t_size t_total = some r → xV xm_P l g (104, xm_i104, xm_I104, 0, 0, 39, [], [], xw_W (xy_a A 12 t_size) (xy_l L 11 t_name) (xy_s S 10 0 t_total)) (.inl none, xw_W (xy_a A 12 r.2.2.1) (xy_l L 11 r.2.1) (xy_s S 10 0 r.2.2.2)) := by
  intro t_name t_size t_total r h
  unfold xf_kd_addKind_39 at h
  obtain rfl := Option.some.inj h
  refine xe_seg ok 1 (G := (fun _ => some (.inl none, xw_W (xy_a A 12 t_size) (xy_l L 11 t_name) (xy_s S 10 0 t_total)))) (fun K => rfl) ?_
  exact xe_ret
theorem xh_kd_addKind_10 {l : Launch} {g : xr_G} (ok : xr_OK xm_P) (A : Nat → Nat → Int32) (L : Nat → Nat → Int64) (S : Nat → Nat → Int32) : ∀ (t_name : (Nat → Int64)) (t_size : (Nat → Int32)) (t_total : Int32) (a1 : Int64) (r : (Unit × (Nat → Int64) × (Nat → Int32) × Int32)), xf_kd_addKind  t_name t_size t_total a1 = some r → xV xm_P l g (104, xm_i104, xm_I104, 0, 0, 0, [(0, .ref 12), (1, .long a1)], [], xw_W (xy_a A 12 t_size) (xy_l L 11 t_name) (xy_s S 10 0 t_total)) (.inl none, xw_W (xy_a A 12 r.2.2.1) (xy_l L 11 r.2.1) (xy_s S 10 0 r.2.2.2)) := by
  intro t_name t_size t_total a1 r h
  unfold xf_kd_addKind at h
  refine xe_seg ok 4 (G := (fun K => if t_total < ((12 : Int32)) then K (104, xm_i104, xm_I104, 0, 0, 9, [(0, .ref 12), (1, .long a1)], [], xw_W (xy_a A 12 t_size) (xy_l L 11 t_name) (xy_s S 10 0 t_total)) else K (104, xm_i104, xm_I104, 0, 0, 39, [(0, .ref 12), (1, .long a1)], [], xw_W (xy_a A 12 t_size) (xy_l L 11 t_name) (xy_s S 10 0 t_total)))) (fun K => rfl) ?_
  rcases xb_if h with ⟨hc80, h⟩ | ⟨hc80, h⟩
  · refine xe_pos hc80 (xe_k ?_)
    refine xe_seg ok 6 (G := (fun K => if xr_in t_total 12 = true then K (104, xm_i104, xm_I104, 0, 0, 19, [(0, .ref 12), (1, .long a1)], [], xw_W (xy_a A 12 t_size) (xy_l L 11 (vp_updL t_name t_total.toNatClampNeg a1)) (xy_s S 10 0 t_total)) else none)) (fun K => rfl) ?_
    obtain ⟨hg81, h⟩ := xn_if h
    refine xe_pos hg81 (xe_k ?_)
    refine xe_seg ok 6 (G := (fun K => if xr_in t_total 12 = true then K (104, xm_i104, xm_I104, 0, 0, 29, [(0, .ref 12), (1, .long a1)], [], xw_W (xy_a A 12 (upd t_size t_total.toNatClampNeg (((0 : Int32))))) (xy_l L 11 (vp_updL t_name t_total.toNatClampNeg a1)) (xy_s S 10 0 t_total)) else none)) (fun K => rfl) ?_
    obtain ⟨hg82, h⟩ := xn_if h
    refine xe_pos hg82 (xe_k ?_)
    refine xe_seg ok 6 (G := (fun K => K (104, xm_i104, xm_I104, 0, 0, 39, [(0, .ref 12), (1, .long a1)], [], xw_W (xy_a A 12 (upd t_size t_total.toNatClampNeg (((0 : Int32))))) (xy_l L 11 (vp_updL t_name t_total.toNatClampNeg a1)) (xy_s S 10 0 (t_total + ((1 : Int32))))))) (fun K => rfl) ?_
    refine xe_k ?_
    refine xe_sub [false, false] (lv' := []) rfl ?_
    exact xh_kd_addKind_10_39 ok A L S (vp_updL t_name t_total.toNatClampNeg a1) (upd t_size t_total.toNatClampNeg (((0 : Int32)))) (t_total + ((1 : Int32))) _ h
  · refine xe_neg hc80 (xe_k ?_)
    refine xe_sub [false, false] (lv' := []) rfl ?_
    exact xh_kd_addKind_10_39 ok A L S t_name t_size t_total _ h
theorem xh_wd_takes_50_44 {l : Launch} {g : xr_G} (ok : xr_OK xm_P) (A : Nat → Nat → Int32) (L : Nat → Nat → Int64) (S : Nat → Nat → Int32) (t_first : (Nat → Int32)) (t_total : Int32) : ∀ (t_now : Int32) (v2 : Int32) (r : (Int32 × Int32)), xf_wd_takes_44 t_first t_total t_now v2 = some r → xV xm_P l g (158, xm_i158, xm_I158, 0, 0, 44, [(2, .int v2)], [], xw_W (xy_a A 53 t_first) L (xy_s (xy_s S 50 6 t_now) 50 5 t_total)) (.inl (some (.int r.1)), xw_W (xy_a A 53 t_first) L (xy_s (xy_s S 50 6 r.2) 50 5 t_total)) := by
  intro t_now v2 r h
  unfold xf_wd_takes_44 at h
  refine xe_seg ok 2 (G := (fun _ => if fits .boolean (.int v2) = true then some (.inl (some (.int v2)), xw_W (xy_a A 53 t_first) L (xy_s (xy_s S 50 6 t_now) 50 5 t_total)) else none)) (fun K => rfl) ?_
  obtain ⟨hg88, h⟩ := xn_if h
  obtain rfl := Option.some.inj h
  exact xe_pos (A := fun _ => some (.inl (some (.int v2)), xw_W (xy_a A 53 t_first) L (xy_s (xy_s S 50 6 t_now) 50 5 t_total))) (B := fun _ => none) hg88 xe_ret
theorem xh_wd_takes_50_29 {l : Launch} {g : xr_G} (ok : xr_OK xm_P) (A : Nat → Nat → Int32) (L : Nat → Nat → Int64) (S : Nat → Nat → Int32) (t_first : (Nat → Int32)) (t_total : Int32) : ∀ (t_now : Int32) (s0 : Int32) (r : (Int32 × Int32)), xf_wd_takes_29 t_first t_total t_now s0 = some r → xV xm_P l g (158, xm_i158, xm_I158, 0, 0, 29, [(0, .ref 52)], [.int s0], xw_W (xy_a A 53 t_first) L (xy_s (xy_s S 50 6 t_now) 50 5 t_total)) (.inl (some (.int r.1)), xw_W (xy_a A 53 t_first) L (xy_s (xy_s S 50 6 r.2) 50 5 t_total)) := by
  intro t_now s0 r h
  unfold xf_wd_takes_29 at h
  refine xe_seg ok 3 (G := (fun K => if s0 = (0 : Int32) then K (158, xm_i158, xm_I158, 0, 0, 44, [(0, .ref 52), (2, .int s0)], [], xw_W (xy_a A 53 t_first) L (xy_s (xy_s S 50 6 t_now) 50 5 t_total)) else K (158, xm_i158, xm_I158, 0, 0, 34, [(0, .ref 52), (2, .int s0)], [], xw_W (xy_a A 53 t_first) L (xy_s (xy_s S 50 6 t_now) 50 5 t_total)))) (fun K => rfl) ?_
  rcases xb_if h with ⟨hc87, h⟩ | ⟨hc87, h⟩
  · refine xe_pos hc87 (xe_k ?_)
    refine xe_sub [false, true] (lv' := [(2, .int s0)]) rfl ?_
    exact xh_wd_takes_50_44 ok A L S t_first t_total t_now s0 _ h
  · refine xe_neg hc87 (xe_k ?_)
    refine xe_seg ok 6 (G := (fun K => K (158, xm_i158, xm_I158, 0, 0, 44, [(0, .ref 52), (2, .int s0)], [], xw_W (xy_a A 53 t_first) L (xy_s (xy_s S 50 6 (t_now + ((1 : Int32)))) 50 5 t_total)))) (fun K => rfl) ?_
    refine xe_k ?_
    refine xe_sub [false, true] (lv' := [(2, .int s0)]) rfl ?_
    exact xh_wd_takes_50_44 ok A L S t_first t_total (t_now + ((1 : Int32))) s0 _ h
theorem xh_wd_takes_50_28 {l : Launch} {g : xr_G} (ok : xr_OK xm_P) (A : Nat → Nat → Int32) (L : Nat → Nat → Int64) (S : Nat → Nat → Int32) (t_first : (Nat → Int32)) (t_total : Int32) : ∀ (t_now : Int32) (r : (Int32 × Int32)), xf_wd_takes_28 t_first t_total t_now = some r → xV xm_P l g (158, xm_i158, xm_I158, 0, 0, 28, [(0, .ref 52)], [], xw_W (xy_a A 53 t_first) L (xy_s (xy_s S 50 6 t_now) 50 5 t_total)) (.inl (some (.int r.1)), xw_W (xy_a A 53 t_first) L (xy_s (xy_s S 50 6 r.2) 50 5 t_total)) := by
  intro t_now r h
  unfold xf_wd_takes_28 at h
  refine xe_seg ok 1 (G := (fun K => K (158, xm_i158, xm_I158, 0, 0, 29, [(0, .ref 52)], [.int ((0 : Int32))], xw_W (xy_a A 53 t_first) L (xy_s (xy_s S 50 6 t_now) 50 5 t_total)))) (fun K => rfl) ?_
  refine xe_k ?_
  refine xe_sub [true] (lv' := [(0, .ref 52)]) rfl ?_
  exact xh_wd_takes_50_29 ok A L S t_first t_total t_now ((0 : Int32)) _ h
theorem xh_wd_takes_50 {l : Launch} {g : xr_G} (ok : xr_OK xm_P) (A : Nat → Nat → Int32) (L : Nat → Nat → Int64) (S : Nat → Nat → Int32) (t_first : (Nat → Int32)) (t_total : Int32) : ∀ (t_now : Int32) (a1 : Int32) (r : (Int32 × Int32)), xf_wd_takes t_first t_total t_now a1 = some r → xV xm_P l g (158, xm_i158, xm_I158, 0, 0, 0, [(0, .ref 52), (1, .int a1)], [], xw_W (xy_a A 53 t_first) L (xy_s (xy_s S 50 6 t_now) 50 5 t_total)) (.inl (some (.int r.1)), xw_W (xy_a A 53 t_first) L (xy_s (xy_s S 50 6 r.2) 50 5 t_total)) := by
  intro t_now a1 r h
  unfold xf_wd_takes at h
  refine xe_seg ok 5 (G := (fun K => if t_now < t_total then K (158, xm_i158, xm_I158, 0, 0, 11, [(0, .ref 52), (1, .int a1)], [], xw_W (xy_a A 53 t_first) L (xy_s (xy_s S 50 6 t_now) 50 5 t_total)) else K (158, xm_i158, xm_I158, 0, 0, 28, [(0, .ref 52), (1, .int a1)], [], xw_W (xy_a A 53 t_first) L (xy_s (xy_s S 50 6 t_now) 50 5 t_total)))) (fun K => rfl) ?_
  rcases xb_if h with ⟨hc84, h⟩ | ⟨hc84, h⟩
  · refine xe_pos hc84 (xe_k ?_)
    refine xe_seg ok 5 (G := (fun K => if xr_in t_now 1200 = true then K (158, xm_i158, xm_I158, 0, 0, 20, [(0, .ref 52), (1, .int a1)], [.int (t_first t_now.toNatClampNeg)], xw_W (xy_a A 53 t_first) L (xy_s (xy_s S 50 6 t_now) 50 5 t_total)) else none)) (fun K => rfl) ?_
    obtain ⟨hg85, h⟩ := xn_if h
    refine xe_pos hg85 (xe_k ?_)
    refine xe_seg ok 2 (G := (fun K => if (t_first t_now.toNatClampNeg) = a1 then K (158, xm_i158, xm_I158, 0, 0, 24, [(0, .ref 52), (1, .int a1)], [], xw_W (xy_a A 53 t_first) L (xy_s (xy_s S 50 6 t_now) 50 5 t_total)) else K (158, xm_i158, xm_I158, 0, 0, 28, [(0, .ref 52), (1, .int a1)], [], xw_W (xy_a A 53 t_first) L (xy_s (xy_s S 50 6 t_now) 50 5 t_total)))) (fun K => rfl) ?_
    rcases xb_if h with ⟨hc86, h⟩ | ⟨hc86, h⟩
    · refine xe_pos hc86 (xe_k ?_)
      refine xe_seg ok 2 (G := (fun K => K (158, xm_i158, xm_I158, 0, 0, 29, [(0, .ref 52), (1, .int a1)], [.int ((1 : Int32))], xw_W (xy_a A 53 t_first) L (xy_s (xy_s S 50 6 t_now) 50 5 t_total)))) (fun K => rfl) ?_
      refine xe_k ?_
      refine xe_sub [true, false] (lv' := [(0, .ref 52)]) rfl ?_
      exact xh_wd_takes_50_29 ok A L S t_first t_total t_now ((1 : Int32)) _ h
    · refine xe_neg hc86 (xe_k ?_)
      refine xe_sub [true, false] (lv' := [(0, .ref 52)]) rfl ?_
      exact xh_wd_takes_50_28 ok A L S t_first t_total t_now _ h
  · refine xe_neg hc84 (xe_k ?_)
    refine xe_sub [true, false] (lv' := [(0, .ref 52)]) rfl ?_
    exact xh_wd_takes_50_28 ok A L S t_first t_total t_now _ h
theorem xh_kd_addSort_10_61 {l : Launch} {g : xr_G} (ok : xr_OK xm_P) (A : Nat → Nat → Int32) (L : Nat → Nat → Int64) (S : Nat → Nat → Int32) (t_total : Int32) : ∀ (t_mayBeNothing : (Nat → Int32)) (t_size : (Nat → Int32)) (t_sort : (Nat → Int32)) (r : (Unit × (Nat → Int32) × (Nat → Int32) × (Nat → Int32))), xf_kd_addSort_61 t_total t_mayBeNothing t_size t_sort = some r → xV xm_P l g (105, xm_i105, xm_I105, 0, 0, 61, [], [], xw_W (xy_a (xy_a (xy_a A 14 t_mayBeNothing) 12 t_size) 13 t_sort) L (xy_s S 10 0 t_total)) (.inl none, xw_W (xy_a (xy_a (xy_a A 14 r.2.1) 12 r.2.2.1) 13 r.2.2.2) L (xy_s S 10 0 t_total)) := by
  intro t_mayBeNothing t_size t_sort r h
  unfold xf_kd_addSort_61 at h
  obtain rfl := Option.some.inj h
  refine xe_seg ok 1 (G := (fun _ => some (.inl none, xw_W (xy_a (xy_a (xy_a A 14 t_mayBeNothing) 12 t_size) 13 t_sort) L (xy_s S 10 0 t_total)))) (fun K => rfl) ?_
  exact xe_ret
theorem xh_kd_addSort_10 {l : Launch} {g : xr_G} (ok : xr_OK xm_P) (A : Nat → Nat → Int32) (L : Nat → Nat → Int64) (S : Nat → Nat → Int32) (t_total : Int32) : ∀ (t_mayBeNothing : (Nat → Int32)) (t_size : (Nat → Int32)) (t_sort : (Nat → Int32)) (a1 : Int32) (a2 : Int32) (r : (Unit × (Nat → Int32) × (Nat → Int32) × (Nat → Int32))), xf_kd_addSort t_total t_mayBeNothing t_size t_sort a1 a2 = some r → xV xm_P l g (105, xm_i105, xm_I105, 0, 0, 0, [(0, .ref 12), (1, .int a1), (2, .int a2)], [], xw_W (xy_a (xy_a (xy_a A 14 t_mayBeNothing) 12 t_size) 13 t_sort) L (xy_s S 10 0 t_total)) (.inl none, xw_W (xy_a (xy_a (xy_a A 14 r.2.1) 12 r.2.2.1) 13 r.2.2.2) L (xy_s S 10 0 t_total)) := by
  intro t_mayBeNothing t_size t_sort a1 a2 r h
  unfold xf_kd_addSort at h
  refine xe_seg ok 7 (G := (fun K => if (t_total - ((1 : Int32))) < (0 : Int32) then K (105, xm_i105, xm_I105, 0, 0, 61, [(0, .ref 12), (1, .int a1), (2, .int a2), (3, .int (t_total - ((1 : Int32))))], [], xw_W (xy_a (xy_a (xy_a A 14 t_mayBeNothing) 12 t_size) 13 t_sort) L (xy_s S 10 0 t_total)) else K (105, xm_i105, xm_I105, 0, 0, 11, [(0, .ref 12), (1, .int a1), (2, .int a2), (3, .int (t_total - ((1 : Int32))))], [], xw_W (xy_a (xy_a (xy_a A 14 t_mayBeNothing) 12 t_size) 13 t_sort) L (xy_s S 10 0 t_total)))) (fun K => rfl) ?_
  rcases xb_if h with ⟨hc96, h⟩ | ⟨hc96, h⟩
  · refine xe_pos hc96 (xe_k ?_)
    refine xe_sub [false, false, false, false] (lv' := []) rfl ?_
    exact xh_kd_addSort_10_61 ok A L S t_total t_mayBeNothing t_size t_sort _ h
  · refine xe_neg hc96 (xe_k ?_)
    refine xe_seg ok 4 (G := (fun K => if xr_in (t_total - ((1 : Int32))) 12 = true then K (105, xm_i105, xm_I105, 0, 0, 17, [(0, .ref 12), (1, .int a1), (2, .int a2), (3, .int (t_total - ((1 : Int32))))], [.int (t_size (t_total - ((1 : Int32))).toNatClampNeg)], xw_W (xy_a (xy_a (xy_a A 14 t_mayBeNothing) 12 t_size) 13 t_sort) L (xy_s S 10 0 t_total)) else none)) (fun K => rfl) ?_
    obtain ⟨hg97, h⟩ := xn_if h
    refine xe_pos hg97 (xe_k ?_)
    refine xe_seg ok 2 (G := (fun K => if (t_size (t_total - ((1 : Int32))).toNatClampNeg) < ((8 : Int32)) then K (105, xm_i105, xm_I105, 0, 0, 22, [(0, .ref 12), (1, .int a1), (2, .int a2), (3, .int (t_total - ((1 : Int32))))], [], xw_W (xy_a (xy_a (xy_a A 14 t_mayBeNothing) 12 t_size) 13 t_sort) L (xy_s S 10 0 t_total)) else K (105, xm_i105, xm_I105, 0, 0, 61, [(0, .ref 12), (1, .int a1), (2, .int a2), (3, .int (t_total - ((1 : Int32))))], [], xw_W (xy_a (xy_a (xy_a A 14 t_mayBeNothing) 12 t_size) 13 t_sort) L (xy_s S 10 0 t_total)))) (fun K => rfl) ?_
    rcases xb_if h with ⟨hc98, h⟩ | ⟨hc98, h⟩
    · refine xe_pos hc98 (xe_k ?_)
      refine xe_seg ok 7 (G := (fun K => if xr_in (t_total - ((1 : Int32))) 12 = true then K (105, xm_i105, xm_I105, 0, 0, 32, [(0, .ref 12), (1, .int a1), (2, .int a2), (3, .int (t_total - ((1 : Int32))))], [.int (t_size (t_total - ((1 : Int32))).toNatClampNeg), .int ((t_total - ((1 : Int32))) * ((8 : Int32)))], xw_W (xy_a (xy_a (xy_a A 14 t_mayBeNothing) 12 t_size) 13 t_sort) L (xy_s S 10 0 t_total)) else none)) (fun K => rfl) ?_
      obtain ⟨hg99, h⟩ := xn_if h
      refine xe_pos hg99 (xe_k ?_)
      refine xe_seg ok 7 (G := (fun K => if xr_in (((t_total - ((1 : Int32))) * ((8 : Int32))) + (t_size (t_total - ((1 : Int32))).toNatClampNeg)) 96 = true then K (105, xm_i105, xm_I105, 0, 0, 43, [(0, .ref 12), (1, .int a1), (2, .int a2), (3, .int (t_total - ((1 : Int32)))), (4, .int (((t_total - ((1 : Int32))) * ((8 : Int32))) + (t_size (t_total - ((1 : Int32))).toNatClampNeg)))], [], xw_W (xy_a (xy_a (xy_a A 14 t_mayBeNothing) 12 t_size) 13 (upd t_sort (((t_total - ((1 : Int32))) * ((8 : Int32))) + (t_size (t_total - ((1 : Int32))).toNatClampNeg)).toNatClampNeg a1)) L (xy_s S 10 0 t_total)) else none)) (fun K => rfl) ?_
      obtain ⟨hg100, h⟩ := xn_if h
      refine xe_pos hg100 (xe_k ?_)
      refine xe_seg ok 5 (G := (fun K => if xr_in (((t_total - ((1 : Int32))) * ((8 : Int32))) + (t_size (t_total - ((1 : Int32))).toNatClampNeg)) 96 = true then K (105, xm_i105, xm_I105, 0, 0, 51, [(0, .ref 12), (1, .int a1), (2, .int a2), (3, .int (t_total - ((1 : Int32)))), (4, .int (((t_total - ((1 : Int32))) * ((8 : Int32))) + (t_size (t_total - ((1 : Int32))).toNatClampNeg)))], [], xw_W (xy_a (xy_a (xy_a A 14 (upd t_mayBeNothing (((t_total - ((1 : Int32))) * ((8 : Int32))) + (t_size (t_total - ((1 : Int32))).toNatClampNeg)).toNatClampNeg (vp_nar .boolean a2))) 12 t_size) 13 (upd t_sort (((t_total - ((1 : Int32))) * ((8 : Int32))) + (t_size (t_total - ((1 : Int32))).toNatClampNeg)).toNatClampNeg a1)) L (xy_s S 10 0 t_total)) else none)) (fun K => rfl) ?_
      obtain ⟨hg101, h⟩ := xn_if h
      refine xe_pos hg101 (xe_k ?_)
      refine xe_seg ok 5 (G := (fun K => if xr_in (t_total - ((1 : Int32))) 12 = true then K (105, xm_i105, xm_I105, 0, 0, 58, [(0, .ref 12), (1, .int a1), (2, .int a2), (3, .int (t_total - ((1 : Int32)))), (4, .int (((t_total - ((1 : Int32))) * ((8 : Int32))) + (t_size (t_total - ((1 : Int32))).toNatClampNeg)))], [.int (t_size (t_total - ((1 : Int32))).toNatClampNeg), .int (t_total - ((1 : Int32))), .ref 14], xw_W (xy_a (xy_a (xy_a A 14 (upd t_mayBeNothing (((t_total - ((1 : Int32))) * ((8 : Int32))) + (t_size (t_total - ((1 : Int32))).toNatClampNeg)).toNatClampNeg (vp_nar .boolean a2))) 12 t_size) 13 (upd t_sort (((t_total - ((1 : Int32))) * ((8 : Int32))) + (t_size (t_total - ((1 : Int32))).toNatClampNeg)).toNatClampNeg a1)) L (xy_s S 10 0 t_total)) else none)) (fun K => rfl) ?_
      obtain ⟨hg102, h⟩ := xn_if h
      refine xe_pos hg102 (xe_k ?_)
      refine xe_seg ok 3 (G := (fun K => if xr_in (t_total - ((1 : Int32))) 12 = true then K (105, xm_i105, xm_I105, 0, 0, 61, [(0, .ref 12), (1, .int a1), (2, .int a2), (3, .int (t_total - ((1 : Int32)))), (4, .int (((t_total - ((1 : Int32))) * ((8 : Int32))) + (t_size (t_total - ((1 : Int32))).toNatClampNeg)))], [], xw_W (xy_a (xy_a (xy_a A 14 (upd t_mayBeNothing (((t_total - ((1 : Int32))) * ((8 : Int32))) + (t_size (t_total - ((1 : Int32))).toNatClampNeg)).toNatClampNeg (vp_nar .boolean a2))) 12 (upd t_size (t_total - ((1 : Int32))).toNatClampNeg (((t_size (t_total - ((1 : Int32))).toNatClampNeg) + ((1 : Int32)))))) 13 (upd t_sort (((t_total - ((1 : Int32))) * ((8 : Int32))) + (t_size (t_total - ((1 : Int32))).toNatClampNeg)).toNatClampNeg a1)) L (xy_s S 10 0 t_total)) else none)) (fun K => rfl) ?_
      obtain ⟨hg103, h⟩ := xn_if h
      refine xe_pos hg103 (xe_k ?_)
      refine xe_sub [false, false, false, false, false] (lv' := []) rfl ?_
      exact xh_kd_addSort_10_61 ok A L S t_total (upd t_mayBeNothing (((t_total - ((1 : Int32))) * ((8 : Int32))) + (t_size (t_total - ((1 : Int32))).toNatClampNeg)).toNatClampNeg (vp_nar .boolean a2)) (upd t_size (t_total - ((1 : Int32))).toNatClampNeg (((t_size (t_total - ((1 : Int32))).toNatClampNeg) + ((1 : Int32))))) (upd t_sort (((t_total - ((1 : Int32))) * ((8 : Int32))) + (t_size (t_total - ((1 : Int32))).toNatClampNeg)).toNatClampNeg a1) _ h
    · refine xe_neg hc98 (xe_k ?_)
      refine xe_sub [false, false, false, false] (lv' := []) rfl ?_
      exact xh_kd_addSort_10_61 ok A L S t_total t_mayBeNothing t_size t_sort _ h
theorem xh_sr_readKind_55_71 {l : Launch} {g : xr_G} (ok : xr_OK xm_P) (A : Nat → Nat → Int32) (L : Nat → Nat → Int64) (S : Nat → Nat → Int32) (t_words_begin : (Nat → Int32)) (t_words_end : (Nat → Int32)) (t_words_first : (Nat → Int32)) (t_words_page_length : Int32) (t_words_page_signs : (Nat → Int32)) (t_words_total : Int32) (n : Nat) : ∀ (N : Nat) (t_kinds_mayBeNothing : (Nat → Int32)) (t_kinds_name : (Nat → Int64)) (t_kinds_size : (Nat → Int32)) (t_kinds_sort : (Nat → Int32)) (t_kinds_total : Int32) (t_words_now : Int32) (v3 : Int32) (r : (Int32 × (Nat → Int32) × (Nat → Int64) × (Nat → Int32) × (Nat → Int32) × Int32 × Int32)), xf_sr_readKind_71 t_words_begin t_words_end t_words_first t_words_page_length t_words_page_signs t_words_total n N t_kinds_mayBeNothing t_kinds_name t_kinds_size t_kinds_sort t_kinds_total t_words_now v3 = some r → xV xm_P l g (148, xm_i148, xm_I148, 0, 0, 71, [(0, .ref 57), (3, .int v3)], [], xw_W (xy_a (xy_a (xy_a (xy_a (xy_a (xy_a (xy_a A 14 t_kinds_mayBeNothing) 12 t_kinds_size) 13 t_kinds_sort) 51 t_words_begin) 52 t_words_end) 53 t_words_first) 2 t_words_page_signs) (xy_l L 11 t_kinds_name) (xy_s (xy_s (xy_s (xy_s S 10 0 t_kinds_total) 50 6 t_words_now) 1 1 t_words_page_length) 50 5 t_words_total)) (.inl (some (.int r.1)), xw_W (xy_a (xy_a (xy_a (xy_a (xy_a (xy_a (xy_a A 14 r.2.1) 12 r.2.2.2.1) 13 r.2.2.2.2.1) 51 t_words_begin) 52 t_words_end) 53 t_words_first) 2 t_words_page_signs) (xy_l L 11 r.2.2.1) (xy_s (xy_s (xy_s (xy_s S 10 0 r.2.2.2.2.2.1) 50 6 r.2.2.2.2.2.2) 1 1 t_words_page_length) 50 5 t_words_total)) := by
  intro N
  induction N with
  | zero => intro t_kinds_mayBeNothing t_kinds_name t_kinds_size t_kinds_sort t_kinds_total t_words_now v3 r h; cases h
  | succ N hk71 =>
    intro t_kinds_mayBeNothing t_kinds_name t_kinds_size t_kinds_sort t_kinds_total t_words_now v3 r h
    refine xe_seg ok 3 (G := (fun K => if v3 < ((8 : Int32)) then K (148, xm_i148, xm_I148, 0, 0, 77, [(0, .ref 57), (3, .int v3)], [], xw_W (xy_a (xy_a (xy_a (xy_a (xy_a (xy_a (xy_a A 14 t_kinds_mayBeNothing) 12 t_kinds_size) 13 t_kinds_sort) 51 t_words_begin) 52 t_words_end) 53 t_words_first) 2 t_words_page_signs) (xy_l L 11 t_kinds_name) (xy_s (xy_s (xy_s (xy_s S 10 0 t_kinds_total) 50 6 t_words_now) 1 1 t_words_page_length) 50 5 t_words_total)) else K (148, xm_i148, xm_I148, 0, 0, 144, [(0, .ref 57), (3, .int v3)], [], xw_W (xy_a (xy_a (xy_a (xy_a (xy_a (xy_a (xy_a A 14 t_kinds_mayBeNothing) 12 t_kinds_size) 13 t_kinds_sort) 51 t_words_begin) 52 t_words_end) 53 t_words_first) 2 t_words_page_signs) (xy_l L 11 t_kinds_name) (xy_s (xy_s (xy_s (xy_s S 10 0 t_kinds_total) 50 6 t_words_now) 1 1 t_words_page_length) 50 5 t_words_total)))) (fun K => rfl) ?_
    rcases xb_if h with ⟨hc91, h⟩ | ⟨hc91, h⟩
    · refine xe_pos hc91 (xe_k ?_)
      refine xe_seg ok 4 (G := (fun K => xr_back K 148 xm_i148 xm_I148 0 0 83 [(0, .ref 57), (3, .int v3)] [.ref 1] 78 true (K (156, xm_i156, xm_I156, 0, 0, 0, [(0, .ref 52)], [], xw_W (xy_a (xy_a (xy_a (xy_a (xy_a (xy_a (xy_a A 14 t_kinds_mayBeNothing) 12 t_kinds_size) 13 t_kinds_sort) 51 t_words_begin) 52 t_words_end) 53 t_words_first) 2 t_words_page_signs) (xy_l L 11 t_kinds_name) (xy_s (xy_s (xy_s (xy_s S 10 0 t_kinds_total) 50 6 t_words_now) 1 1 t_words_page_length) 50 5 t_words_total))))) (fun K => rfl) ?_
      obtain ⟨q92, hq92, h⟩ := Option.bind_eq_some_iff.mp h
      have heq92 := xh_wd_ahead_50 (l := l) (g := g) ok (xy_a (xy_a (xy_a (xy_a (xy_a (xy_a (xy_a A 14 t_kinds_mayBeNothing) 12 t_kinds_size) 13 t_kinds_sort) 51 t_words_begin) 52 t_words_end) 53 t_words_first) 2 t_words_page_signs) (xy_l L 11 t_kinds_name) (xy_s (xy_s (xy_s (xy_s S 10 0 t_kinds_total) 50 6 t_words_now) 1 1 t_words_page_length) 50 5 t_words_total) t_words_first t_words_now t_words_total _ hq92
      refine xe_call1 (ws' := xw_W (xy_a (xy_a (xy_a (xy_a (xy_a (xy_a (xy_a A 14 t_kinds_mayBeNothing) 12 t_kinds_size) 13 t_kinds_sort) 51 t_words_begin) 52 t_words_end) 53 t_words_first) 2 t_words_page_signs) (xy_l L 11 t_kinds_name) (xy_s (xy_s (xy_s (xy_s S 10 0 t_kinds_total) 50 6 t_words_now) 1 1 t_words_page_length) 50 5 t_words_total)) (by decide) heq92 (Or.inl rfl) ?_
      refine xe_seg ok 5 (G := (fun K => if (xr_ix q92) = ((-1 : Int32)) then K (148, xm_i148, xm_I148, 0, 0, 97, [(0, .ref 57), (3, .int v3), (4, .int (xr_ix q92))], [], xw_W (xy_a (xy_a (xy_a (xy_a (xy_a (xy_a (xy_a A 14 t_kinds_mayBeNothing) 12 t_kinds_size) 13 t_kinds_sort) 51 t_words_begin) 52 t_words_end) 53 t_words_first) 2 t_words_page_signs) (xy_l L 11 t_kinds_name) (xy_s (xy_s (xy_s (xy_s S 10 0 t_kinds_total) 50 6 t_words_now) 1 1 t_words_page_length) 50 5 t_words_total)) else K (148, xm_i148, xm_I148, 0, 0, 99, [(0, .ref 57), (3, .int v3), (4, .int (xr_ix q92))], [], xw_W (xy_a (xy_a (xy_a (xy_a (xy_a (xy_a (xy_a A 14 t_kinds_mayBeNothing) 12 t_kinds_size) 13 t_kinds_sort) 51 t_words_begin) 52 t_words_end) 53 t_words_first) 2 t_words_page_signs) (xy_l L 11 t_kinds_name) (xy_s (xy_s (xy_s (xy_s S 10 0 t_kinds_total) 50 6 t_words_now) 1 1 t_words_page_length) 50 5 t_words_total)))) (fun K => rfl) ?_
      rcases xb_if h with ⟨hc93, h⟩ | ⟨hc93, h⟩
      · refine xe_pos hc93 (xe_k ?_)
        obtain rfl := Option.some.inj h
        refine xe_seg ok 2 (G := (fun _ => some (.inl (some (.int ((0 : Int32)))), xw_W (xy_a (xy_a (xy_a (xy_a (xy_a (xy_a (xy_a A 14 t_kinds_mayBeNothing) 12 t_kinds_size) 13 t_kinds_sort) 51 t_words_begin) 52 t_words_end) 53 t_words_first) 2 t_words_page_signs) (xy_l L 11 t_kinds_name) (xy_s (xy_s (xy_s (xy_s S 10 0 t_kinds_total) 50 6 t_words_now) 1 1 t_words_page_length) 50 5 t_words_total)))) (fun K => rfl) ?_
        exact xe_ret
      · refine xe_neg hc93 (xe_k ?_)
        refine xe_seg ok 3 (G := (fun K => xr_back K 148 xm_i148 xm_I148 0 0 103 [(0, .ref 57), (3, .int v3), (4, .int (xr_ix q92))] [] 78 true (K (157, xm_i157, xm_I157, 0, 0, 0, [(0, .ref 52)], [], xw_W (xy_a (xy_a (xy_a (xy_a (xy_a (xy_a (xy_a A 14 t_kinds_mayBeNothing) 12 t_kinds_size) 13 t_kinds_sort) 51 t_words_begin) 52 t_words_end) 53 t_words_first) 2 t_words_page_signs) (xy_l L 11 t_kinds_name) (xy_s (xy_s (xy_s (xy_s S 10 0 t_kinds_total) 50 6 t_words_now) 1 1 t_words_page_length) 50 5 t_words_total))))) (fun K => rfl) ?_
        obtain ⟨q94, hq94, h⟩ := Option.bind_eq_some_iff.mp h
        have heq94 := xh_wd_step_50 (l := l) (g := g) ok (xy_a (xy_a (xy_a (xy_a (xy_a (xy_a (xy_a A 14 t_kinds_mayBeNothing) 12 t_kinds_size) 13 t_kinds_sort) 51 t_words_begin) 52 t_words_end) 53 t_words_first) 2 t_words_page_signs) (xy_l L 11 t_kinds_name) (xy_s (xy_s (xy_s (xy_s S 10 0 t_kinds_total) 50 6 t_words_now) 1 1 t_words_page_length) 50 5 t_words_total) t_words_now _ hq94
        refine xe_call0 (ws' := xw_W (xy_a (xy_a (xy_a (xy_a (xy_a (xy_a (xy_a A 14 t_kinds_mayBeNothing) 12 t_kinds_size) 13 t_kinds_sort) 51 t_words_begin) 52 t_words_end) 53 t_words_first) 2 t_words_page_signs) (xy_l L 11 t_kinds_name) (xy_s (xy_s (xy_s (xy_s S 10 0 t_kinds_total) 50 6 q94.2) 1 1 t_words_page_length) 50 5 t_words_total)) (by decide) heq94 (Or.inl rfl) ?_
        refine xe_seg ok 7 (G := (fun K => xr_back K 148 xm_i148 xm_I148 0 0 118 [(0, .ref 57), (3, .int v3), (4, .int (xr_ix q92))] [.int (xr_ix q92), .ref 12] 78 true (K (158, xm_i158, xm_I158, 0, 0, 0, [(0, .ref 52), (1, .int ((63 : Int32)))], [], xw_W (xy_a (xy_a (xy_a (xy_a (xy_a (xy_a (xy_a A 14 t_kinds_mayBeNothing) 12 t_kinds_size) 13 t_kinds_sort) 51 t_words_begin) 52 t_words_end) 53 t_words_first) 2 t_words_page_signs) (xy_l L 11 t_kinds_name) (xy_s (xy_s (xy_s (xy_s S 10 0 t_kinds_total) 50 6 q94.2) 1 1 t_words_page_length) 50 5 t_words_total))))) (fun K => rfl) ?_
        obtain ⟨q95, hq95, h⟩ := Option.bind_eq_some_iff.mp h
        have heq95 := xh_wd_takes_50 (l := l) (g := g) ok (xy_a (xy_a (xy_a (xy_a (xy_a (xy_a (xy_a A 14 t_kinds_mayBeNothing) 12 t_kinds_size) 13 t_kinds_sort) 51 t_words_begin) 52 t_words_end) 53 t_words_first) 2 t_words_page_signs) (xy_l L 11 t_kinds_name) (xy_s (xy_s (xy_s (xy_s S 10 0 t_kinds_total) 50 6 q94.2) 1 1 t_words_page_length) 50 5 t_words_total) t_words_first t_words_total q94.2 ((63 : Int32)) _ hq95
        refine xe_call1 (ws' := xw_W (xy_a (xy_a (xy_a (xy_a (xy_a (xy_a (xy_a A 14 t_kinds_mayBeNothing) 12 t_kinds_size) 13 t_kinds_sort) 51 t_words_begin) 52 t_words_end) 53 t_words_first) 2 t_words_page_signs) (xy_l L 11 t_kinds_name) (xy_s (xy_s (xy_s (xy_s S 10 0 t_kinds_total) 50 6 q95.2) 1 1 t_words_page_length) 50 5 t_words_total)) (by decide) heq95 (Or.inl rfl) ?_
        refine xe_seg ok 1 (G := (fun K => xr_back K 148 xm_i148 xm_I148 0 0 121 [(0, .ref 57), (3, .int v3), (4, .int (xr_ix q92))] [] 78 true (K (105, xm_i105, xm_I105, 0, 0, 0, [(0, .ref 12), (1, .int (xr_ix q92)), (2, .int q95.1)], [], xw_W (xy_a (xy_a (xy_a (xy_a (xy_a (xy_a (xy_a A 14 t_kinds_mayBeNothing) 12 t_kinds_size) 13 t_kinds_sort) 51 t_words_begin) 52 t_words_end) 53 t_words_first) 2 t_words_page_signs) (xy_l L 11 t_kinds_name) (xy_s (xy_s (xy_s (xy_s S 10 0 t_kinds_total) 50 6 q95.2) 1 1 t_words_page_length) 50 5 t_words_total))))) (fun K => rfl) ?_
        obtain ⟨q104, hq104, h⟩ := Option.bind_eq_some_iff.mp h
        have heq104 := xh_kd_addSort_10 (l := l) (g := g) ok (xy_a (xy_a (xy_a (xy_a (xy_a (xy_a (xy_a A 14 t_kinds_mayBeNothing) 12 t_kinds_size) 13 t_kinds_sort) 51 t_words_begin) 52 t_words_end) 53 t_words_first) 2 t_words_page_signs) (xy_l L 11 t_kinds_name) (xy_s (xy_s (xy_s (xy_s S 10 0 t_kinds_total) 50 6 q95.2) 1 1 t_words_page_length) 50 5 t_words_total) t_kinds_total t_kinds_mayBeNothing t_kinds_size t_kinds_sort (xr_ix q92) q95.1 _ hq104
        refine xe_call0 (ws' := xw_W (xy_a (xy_a (xy_a (xy_a (xy_a (xy_a (xy_a A 14 q104.2.1) 12 q104.2.2.1) 13 q104.2.2.2) 51 t_words_begin) 52 t_words_end) 53 t_words_first) 2 t_words_page_signs) (xy_l L 11 t_kinds_name) (xy_s (xy_s (xy_s (xy_s S 10 0 t_kinds_total) 50 6 q95.2) 1 1 t_words_page_length) 50 5 t_words_total)) (by decide) heq104 (Or.inl rfl) ?_
        refine xe_seg ok 4 (G := (fun K => xr_back K 148 xm_i148 xm_I148 0 0 130 [(0, .ref 57), (3, .int v3), (4, .int (xr_ix q92))] [] 78 true (K (158, xm_i158, xm_I158, 0, 0, 0, [(0, .ref 52), (1, .int ((59 : Int32)))], [], xw_W (xy_a (xy_a (xy_a (xy_a (xy_a (xy_a (xy_a A 14 q104.2.1) 12 q104.2.2.1) 13 q104.2.2.2) 51 t_words_begin) 52 t_words_end) 53 t_words_first) 2 t_words_page_signs) (xy_l L 11 t_kinds_name) (xy_s (xy_s (xy_s (xy_s S 10 0 t_kinds_total) 50 6 q95.2) 1 1 t_words_page_length) 50 5 t_words_total))))) (fun K => rfl) ?_
        obtain ⟨q105, hq105, h⟩ := Option.bind_eq_some_iff.mp h
        have heq105 := xh_wd_takes_50 (l := l) (g := g) ok (xy_a (xy_a (xy_a (xy_a (xy_a (xy_a (xy_a A 14 q104.2.1) 12 q104.2.2.1) 13 q104.2.2.2) 51 t_words_begin) 52 t_words_end) 53 t_words_first) 2 t_words_page_signs) (xy_l L 11 t_kinds_name) (xy_s (xy_s (xy_s (xy_s S 10 0 t_kinds_total) 50 6 q95.2) 1 1 t_words_page_length) 50 5 t_words_total) t_words_first t_words_total q95.2 ((59 : Int32)) _ hq105
        refine xe_call1 (ws' := xw_W (xy_a (xy_a (xy_a (xy_a (xy_a (xy_a (xy_a A 14 q104.2.1) 12 q104.2.2.1) 13 q104.2.2.2) 51 t_words_begin) 52 t_words_end) 53 t_words_first) 2 t_words_page_signs) (xy_l L 11 t_kinds_name) (xy_s (xy_s (xy_s (xy_s S 10 0 t_kinds_total) 50 6 q105.2) 1 1 t_words_page_length) 50 5 t_words_total)) (by decide) heq105 (Or.inl rfl) ?_
        refine xe_seg ok 1 (G := (fun K => if q105.1 = (0 : Int32) then K (148, xm_i148, xm_I148, 0, 0, 138, [(0, .ref 57), (3, .int v3), (4, .int (xr_ix q92))], [], xw_W (xy_a (xy_a (xy_a (xy_a (xy_a (xy_a (xy_a A 14 q104.2.1) 12 q104.2.2.1) 13 q104.2.2.2) 51 t_words_begin) 52 t_words_end) 53 t_words_first) 2 t_words_page_signs) (xy_l L 11 t_kinds_name) (xy_s (xy_s (xy_s (xy_s S 10 0 t_kinds_total) 50 6 q105.2) 1 1 t_words_page_length) 50 5 t_words_total)) else K (148, xm_i148, xm_I148, 0, 0, 136, [(0, .ref 57), (3, .int v3), (4, .int (xr_ix q92))], [], xw_W (xy_a (xy_a (xy_a (xy_a (xy_a (xy_a (xy_a A 14 q104.2.1) 12 q104.2.2.1) 13 q104.2.2.2) 51 t_words_begin) 52 t_words_end) 53 t_words_first) 2 t_words_page_signs) (xy_l L 11 t_kinds_name) (xy_s (xy_s (xy_s (xy_s S 10 0 t_kinds_total) 50 6 q105.2) 1 1 t_words_page_length) 50 5 t_words_total)))) (fun K => rfl) ?_
        rcases xb_if h with ⟨hc106, h⟩ | ⟨hc106, h⟩
        · refine xe_pos hc106 (xe_k ?_)
          refine xe_seg ok 2 (G := (fun K => K (148, xm_i148, xm_I148, 0, 0, 71, [(0, .ref 57), (3, .int (v3 + (1 : Int32))), (4, .int (xr_ix q92))], [], xw_W (xy_a (xy_a (xy_a (xy_a (xy_a (xy_a (xy_a A 14 q104.2.1) 12 q104.2.2.1) 13 q104.2.2.2) 51 t_words_begin) 52 t_words_end) 53 t_words_first) 2 t_words_page_signs) (xy_l L 11 t_kinds_name) (xy_s (xy_s (xy_s (xy_s S 10 0 t_kinds_total) 50 6 q105.2) 1 1 t_words_page_length) 50 5 t_words_total)))) (fun K => rfl) ?_
          refine xe_k ?_
          refine xe_sub [true, true, false] (lv' := [(0, .ref 57), (3, .int (v3 + (1 : Int32)))]) rfl ?_
          exact hk71 q104.2.1 t_kinds_name q104.2.2.1 q104.2.2.2 t_kinds_total q105.2 (v3 + (1 : Int32)) _ h
        · refine xe_neg hc106 (xe_k ?_)
          obtain rfl := Option.some.inj h
          refine xe_seg ok 2 (G := (fun _ => some (.inl (some (.int ((1 : Int32)))), xw_W (xy_a (xy_a (xy_a (xy_a (xy_a (xy_a (xy_a A 14 q104.2.1) 12 q104.2.2.1) 13 q104.2.2.2) 51 t_words_begin) 52 t_words_end) 53 t_words_first) 2 t_words_page_signs) (xy_l L 11 t_kinds_name) (xy_s (xy_s (xy_s (xy_s S 10 0 t_kinds_total) 50 6 q105.2) 1 1 t_words_page_length) 50 5 t_words_total)))) (fun K => rfl) ?_
          exact xe_ret
    · refine xe_neg hc91 (xe_k ?_)
      obtain rfl := Option.some.inj h
      refine xe_seg ok 2 (G := (fun _ => some (.inl (some (.int ((0 : Int32)))), xw_W (xy_a (xy_a (xy_a (xy_a (xy_a (xy_a (xy_a A 14 t_kinds_mayBeNothing) 12 t_kinds_size) 13 t_kinds_sort) 51 t_words_begin) 52 t_words_end) 53 t_words_first) 2 t_words_page_signs) (xy_l L 11 t_kinds_name) (xy_s (xy_s (xy_s (xy_s S 10 0 t_kinds_total) 50 6 t_words_now) 1 1 t_words_page_length) 50 5 t_words_total)))) (fun K => rfl) ?_
      exact xe_ret
theorem xh_sr_readKind_55 {l : Launch} {g : xr_G} (ok : xr_OK xm_P) (A : Nat → Nat → Int32) (L : Nat → Nat → Int64) (S : Nat → Nat → Int32) (t_words_begin : (Nat → Int32)) (t_words_end : (Nat → Int32)) (t_words_first : (Nat → Int32)) (t_words_page_length : Int32) (t_words_page_signs : (Nat → Int32)) (t_words_total : Int32) (n : Nat) : ∀ (t_kinds_mayBeNothing : (Nat → Int32)) (t_kinds_name : (Nat → Int64)) (t_kinds_size : (Nat → Int32)) (t_kinds_sort : (Nat → Int32)) (t_kinds_total : Int32) (t_words_now : Int32) (r : (Int32 × (Nat → Int32) × (Nat → Int64) × (Nat → Int32) × (Nat → Int32) × Int32 × Int32)), xf_sr_readKind t_words_begin t_words_end t_words_first t_words_page_length t_words_page_signs t_words_total n t_kinds_mayBeNothing t_kinds_name t_kinds_size t_kinds_sort t_kinds_total t_words_now = some r → xV xm_P l g (148, xm_i148, xm_I148, 0, 0, 0, [(0, .ref 57)], [], xw_W (xy_a (xy_a (xy_a (xy_a (xy_a (xy_a (xy_a A 14 t_kinds_mayBeNothing) 12 t_kinds_size) 13 t_kinds_sort) 51 t_words_begin) 52 t_words_end) 53 t_words_first) 2 t_words_page_signs) (xy_l L 11 t_kinds_name) (xy_s (xy_s (xy_s (xy_s S 10 0 t_kinds_total) 50 6 t_words_now) 1 1 t_words_page_length) 50 5 t_words_total)) (.inl (some (.int r.1)), xw_W (xy_a (xy_a (xy_a (xy_a (xy_a (xy_a (xy_a A 14 r.2.1) 12 r.2.2.2.1) 13 r.2.2.2.2.1) 51 t_words_begin) 52 t_words_end) 53 t_words_first) 2 t_words_page_signs) (xy_l L 11 r.2.2.1) (xy_s (xy_s (xy_s (xy_s S 10 0 r.2.2.2.2.2.1) 50 6 r.2.2.2.2.2.2) 1 1 t_words_page_length) 50 5 t_words_total)) := by
  intro t_kinds_mayBeNothing t_kinds_name t_kinds_size t_kinds_sort t_kinds_total t_words_now r h
  unfold xf_sr_readKind at h
  refine xe_seg ok 3 (G := (fun K => xr_back K 148 xm_i148 xm_I148 0 0 4 [(0, .ref 57)] [] 78 true (K (159, xm_i159, xm_I159, 0, 0, 0, [(0, .ref 52)], [], xw_W (xy_a (xy_a (xy_a (xy_a (xy_a (xy_a (xy_a A 14 t_kinds_mayBeNothing) 12 t_kinds_size) 13 t_kinds_sort) 51 t_words_begin) 52 t_words_end) 53 t_words_first) 2 t_words_page_signs) (xy_l L 11 t_kinds_name) (xy_s (xy_s (xy_s (xy_s S 10 0 t_kinds_total) 50 6 t_words_now) 1 1 t_words_page_length) 50 5 t_words_total))))) (fun K => rfl) ?_
  obtain ⟨q71, hq71, h⟩ := Option.bind_eq_some_iff.mp h
  have heq71 := xh_wd_nameAhead_50 (l := l) (g := g) ok (xy_a (xy_a (xy_a (xy_a (xy_a (xy_a (xy_a A 14 t_kinds_mayBeNothing) 12 t_kinds_size) 13 t_kinds_sort) 51 t_words_begin) 52 t_words_end) 53 t_words_first) 2 t_words_page_signs) (xy_l L 11 t_kinds_name) (xy_s (xy_s (xy_s (xy_s S 10 0 t_kinds_total) 50 6 t_words_now) 1 1 t_words_page_length) 50 5 t_words_total) t_words_begin t_words_end t_words_first t_words_now t_words_page_length t_words_page_signs t_words_total n _ hq71
  refine xe_call1 (ws' := xw_W (xy_a (xy_a (xy_a (xy_a (xy_a (xy_a (xy_a A 14 t_kinds_mayBeNothing) 12 t_kinds_size) 13 t_kinds_sort) 51 t_words_begin) 52 t_words_end) 53 t_words_first) 2 t_words_page_signs) (xy_l L 11 t_kinds_name) (xy_s (xy_s (xy_s (xy_s S 10 0 t_kinds_total) 50 6 t_words_now) 1 1 t_words_page_length) 50 5 t_words_total)) (by decide) heq71 (Or.inl rfl) ?_
  refine xe_seg ok 5 (G := (fun K => if (lg_cmp q71 ((0 : Int64))) = (0 : Int32) then K (148, xm_i148, xm_I148, 0, 0, 38, [(0, .ref 57), (1, .long q71)], [], xw_W (xy_a (xy_a (xy_a (xy_a (xy_a (xy_a (xy_a A 14 t_kinds_mayBeNothing) 12 t_kinds_size) 13 t_kinds_sort) 51 t_words_begin) 52 t_words_end) 53 t_words_first) 2 t_words_page_signs) (xy_l L 11 t_kinds_name) (xy_s (xy_s (xy_s (xy_s S 10 0 t_kinds_total) 50 6 t_words_now) 1 1 t_words_page_length) 50 5 t_words_total)) else K (148, xm_i148, xm_I148, 0, 0, 14, [(0, .ref 57), (1, .long q71)], [], xw_W (xy_a (xy_a (xy_a (xy_a (xy_a (xy_a (xy_a A 14 t_kinds_mayBeNothing) 12 t_kinds_size) 13 t_kinds_sort) 51 t_words_begin) 52 t_words_end) 53 t_words_first) 2 t_words_page_signs) (xy_l L 11 t_kinds_name) (xy_s (xy_s (xy_s (xy_s S 10 0 t_kinds_total) 50 6 t_words_now) 1 1 t_words_page_length) 50 5 t_words_total)))) (fun K => rfl) ?_
  rcases xb_if h with ⟨hc72, h⟩ | ⟨hc72, h⟩
  · refine xe_pos hc72 (xe_k ?_)
    refine xe_sub [false, false] (lv' := []) rfl ?_
    exact xh_sr_readKind_55_38 ok A L S t_words_begin t_words_end t_words_first t_words_page_length t_words_page_signs t_words_total n t_kinds_mayBeNothing t_kinds_name t_kinds_size t_kinds_sort t_kinds_total t_words_now _ h
  · refine xe_neg hc72 (xe_k ?_)
    refine xe_seg ok 5 (G := (fun K => if t_kinds_total < ((12 : Int32)) then K (148, xm_i148, xm_I148, 0, 0, 26, [(0, .ref 57), (1, .long q71)], [], xw_W (xy_a (xy_a (xy_a (xy_a (xy_a (xy_a (xy_a A 14 t_kinds_mayBeNothing) 12 t_kinds_size) 13 t_kinds_sort) 51 t_words_begin) 52 t_words_end) 53 t_words_first) 2 t_words_page_signs) (xy_l L 11 t_kinds_name) (xy_s (xy_s (xy_s (xy_s S 10 0 t_kinds_total) 50 6 t_words_now) 1 1 t_words_page_length) 50 5 t_words_total)) else K (148, xm_i148, xm_I148, 0, 0, 38, [(0, .ref 57), (1, .long q71)], [], xw_W (xy_a (xy_a (xy_a (xy_a (xy_a (xy_a (xy_a A 14 t_kinds_mayBeNothing) 12 t_kinds_size) 13 t_kinds_sort) 51 t_words_begin) 52 t_words_end) 53 t_words_first) 2 t_words_page_signs) (xy_l L 11 t_kinds_name) (xy_s (xy_s (xy_s (xy_s S 10 0 t_kinds_total) 50 6 t_words_now) 1 1 t_words_page_length) 50 5 t_words_total)))) (fun K => rfl) ?_
    rcases xb_if h with ⟨hc73, h⟩ | ⟨hc73, h⟩
    · refine xe_pos hc73 (xe_k ?_)
      refine xe_seg ok 4 (G := (fun K => xr_back K 148 xm_i148 xm_I148 0 0 31 [(0, .ref 57), (1, .long q71)] [] 78 true (K (103, xm_i103, xm_I103, 0, 0, 0, [(0, .ref 12), (1, .long q71)], [], xw_W (xy_a (xy_a (xy_a (xy_a (xy_a (xy_a (xy_a A 14 t_kinds_mayBeNothing) 12 t_kinds_size) 13 t_kinds_sort) 51 t_words_begin) 52 t_words_end) 53 t_words_first) 2 t_words_page_signs) (xy_l L 11 t_kinds_name) (xy_s (xy_s (xy_s (xy_s S 10 0 t_kinds_total) 50 6 t_words_now) 1 1 t_words_page_length) 50 5 t_words_total))))) (fun K => rfl) ?_
      obtain ⟨q77, hq77, h⟩ := Option.bind_eq_some_iff.mp h
      have heq77 := xh_kd_find_10 (l := l) (g := g) ok (xy_a (xy_a (xy_a (xy_a (xy_a (xy_a (xy_a A 14 t_kinds_mayBeNothing) 12 t_kinds_size) 13 t_kinds_sort) 51 t_words_begin) 52 t_words_end) 53 t_words_first) 2 t_words_page_signs) (xy_l L 11 t_kinds_name) (xy_s (xy_s (xy_s (xy_s S 10 0 t_kinds_total) 50 6 t_words_now) 1 1 t_words_page_length) 50 5 t_words_total) t_kinds_name t_kinds_total n q71 _ hq77
      refine xe_call1 (ws' := xw_W (xy_a (xy_a (xy_a (xy_a (xy_a (xy_a (xy_a A 14 t_kinds_mayBeNothing) 12 t_kinds_size) 13 t_kinds_sort) 51 t_words_begin) 52 t_words_end) 53 t_words_first) 2 t_words_page_signs) (xy_l L 11 t_kinds_name) (xy_s (xy_s (xy_s (xy_s S 10 0 t_kinds_total) 50 6 t_words_now) 1 1 t_words_page_length) 50 5 t_words_total)) (by decide) heq77 (Or.inl rfl) ?_
      refine xe_seg ok 2 (G := (fun K => if q77 = ((-1 : Int32)) then K (148, xm_i148, xm_I148, 0, 0, 40, [(0, .ref 57), (1, .long q71)], [], xw_W (xy_a (xy_a (xy_a (xy_a (xy_a (xy_a (xy_a A 14 t_kinds_mayBeNothing) 12 t_kinds_size) 13 t_kinds_sort) 51 t_words_begin) 52 t_words_end) 53 t_words_first) 2 t_words_page_signs) (xy_l L 11 t_kinds_name) (xy_s (xy_s (xy_s (xy_s S 10 0 t_kinds_total) 50 6 t_words_now) 1 1 t_words_page_length) 50 5 t_words_total)) else K (148, xm_i148, xm_I148, 0, 0, 38, [(0, .ref 57), (1, .long q71)], [], xw_W (xy_a (xy_a (xy_a (xy_a (xy_a (xy_a (xy_a A 14 t_kinds_mayBeNothing) 12 t_kinds_size) 13 t_kinds_sort) 51 t_words_begin) 52 t_words_end) 53 t_words_first) 2 t_words_page_signs) (xy_l L 11 t_kinds_name) (xy_s (xy_s (xy_s (xy_s S 10 0 t_kinds_total) 50 6 t_words_now) 1 1 t_words_page_length) 50 5 t_words_total)))) (fun K => rfl) ?_
      rcases xb_if h with ⟨hc78, h⟩ | ⟨hc78, h⟩
      · refine xe_pos hc78 (xe_k ?_)
        refine xe_seg ok 3 (G := (fun K => xr_back K 148 xm_i148 xm_I148 0 0 44 [(0, .ref 57), (1, .long q71)] [] 78 true (K (157, xm_i157, xm_I157, 0, 0, 0, [(0, .ref 52)], [], xw_W (xy_a (xy_a (xy_a (xy_a (xy_a (xy_a (xy_a A 14 t_kinds_mayBeNothing) 12 t_kinds_size) 13 t_kinds_sort) 51 t_words_begin) 52 t_words_end) 53 t_words_first) 2 t_words_page_signs) (xy_l L 11 t_kinds_name) (xy_s (xy_s (xy_s (xy_s S 10 0 t_kinds_total) 50 6 t_words_now) 1 1 t_words_page_length) 50 5 t_words_total))))) (fun K => rfl) ?_
        obtain ⟨q79, hq79, h⟩ := Option.bind_eq_some_iff.mp h
        have heq79 := xh_wd_step_50 (l := l) (g := g) ok (xy_a (xy_a (xy_a (xy_a (xy_a (xy_a (xy_a A 14 t_kinds_mayBeNothing) 12 t_kinds_size) 13 t_kinds_sort) 51 t_words_begin) 52 t_words_end) 53 t_words_first) 2 t_words_page_signs) (xy_l L 11 t_kinds_name) (xy_s (xy_s (xy_s (xy_s S 10 0 t_kinds_total) 50 6 t_words_now) 1 1 t_words_page_length) 50 5 t_words_total) t_words_now _ hq79
        refine xe_call0 (ws' := xw_W (xy_a (xy_a (xy_a (xy_a (xy_a (xy_a (xy_a A 14 t_kinds_mayBeNothing) 12 t_kinds_size) 13 t_kinds_sort) 51 t_words_begin) 52 t_words_end) 53 t_words_first) 2 t_words_page_signs) (xy_l L 11 t_kinds_name) (xy_s (xy_s (xy_s (xy_s S 10 0 t_kinds_total) 50 6 q79.2) 1 1 t_words_page_length) 50 5 t_words_total)) (by decide) heq79 (Or.inl rfl) ?_
        refine xe_seg ok 4 (G := (fun K => xr_back K 148 xm_i148 xm_I148 0 0 52 [(0, .ref 57), (1, .long q71)] [] 78 true (K (104, xm_i104, xm_I104, 0, 0, 0, [(0, .ref 12), (1, .long q71)], [], xw_W (xy_a (xy_a (xy_a (xy_a (xy_a (xy_a (xy_a A 14 t_kinds_mayBeNothing) 12 t_kinds_size) 13 t_kinds_sort) 51 t_words_begin) 52 t_words_end) 53 t_words_first) 2 t_words_page_signs) (xy_l L 11 t_kinds_name) (xy_s (xy_s (xy_s (xy_s S 10 0 t_kinds_total) 50 6 q79.2) 1 1 t_words_page_length) 50 5 t_words_total))))) (fun K => rfl) ?_
        obtain ⟨q83, hq83, h⟩ := Option.bind_eq_some_iff.mp h
        have heq83 := xh_kd_addKind_10 (l := l) (g := g) ok (xy_a (xy_a (xy_a (xy_a (xy_a (xy_a (xy_a A 14 t_kinds_mayBeNothing) 12 t_kinds_size) 13 t_kinds_sort) 51 t_words_begin) 52 t_words_end) 53 t_words_first) 2 t_words_page_signs) (xy_l L 11 t_kinds_name) (xy_s (xy_s (xy_s (xy_s S 10 0 t_kinds_total) 50 6 q79.2) 1 1 t_words_page_length) 50 5 t_words_total) t_kinds_name t_kinds_size t_kinds_total q71 _ hq83
        refine xe_call0 (ws' := xw_W (xy_a (xy_a (xy_a (xy_a (xy_a (xy_a (xy_a A 14 t_kinds_mayBeNothing) 12 q83.2.2.1) 13 t_kinds_sort) 51 t_words_begin) 52 t_words_end) 53 t_words_first) 2 t_words_page_signs) (xy_l L 11 q83.2.1) (xy_s (xy_s (xy_s (xy_s S 10 0 q83.2.2.2) 50 6 q79.2) 1 1 t_words_page_length) 50 5 t_words_total)) (by decide) heq83 (Or.inl rfl) ?_
        refine xe_seg ok 4 (G := (fun K => xr_back K 148 xm_i148 xm_I148 0 0 61 [(0, .ref 57), (1, .long q71)] [] 78 true (K (158, xm_i158, xm_I158, 0, 0, 0, [(0, .ref 52), (1, .int ((61 : Int32)))], [], xw_W (xy_a (xy_a (xy_a (xy_a (xy_a (xy_a (xy_a A 14 t_kinds_mayBeNothing) 12 q83.2.2.1) 13 t_kinds_sort) 51 t_words_begin) 52 t_words_end) 53 t_words_first) 2 t_words_page_signs) (xy_l L 11 q83.2.1) (xy_s (xy_s (xy_s (xy_s S 10 0 q83.2.2.2) 50 6 q79.2) 1 1 t_words_page_length) 50 5 t_words_total))))) (fun K => rfl) ?_
        obtain ⟨q89, hq89, h⟩ := Option.bind_eq_some_iff.mp h
        have heq89 := xh_wd_takes_50 (l := l) (g := g) ok (xy_a (xy_a (xy_a (xy_a (xy_a (xy_a (xy_a A 14 t_kinds_mayBeNothing) 12 q83.2.2.1) 13 t_kinds_sort) 51 t_words_begin) 52 t_words_end) 53 t_words_first) 2 t_words_page_signs) (xy_l L 11 q83.2.1) (xy_s (xy_s (xy_s (xy_s S 10 0 q83.2.2.2) 50 6 q79.2) 1 1 t_words_page_length) 50 5 t_words_total) t_words_first t_words_total q79.2 ((61 : Int32)) _ hq89
        refine xe_call1 (ws' := xw_W (xy_a (xy_a (xy_a (xy_a (xy_a (xy_a (xy_a A 14 t_kinds_mayBeNothing) 12 q83.2.2.1) 13 t_kinds_sort) 51 t_words_begin) 52 t_words_end) 53 t_words_first) 2 t_words_page_signs) (xy_l L 11 q83.2.1) (xy_s (xy_s (xy_s (xy_s S 10 0 q83.2.2.2) 50 6 q89.2) 1 1 t_words_page_length) 50 5 t_words_total)) (by decide) heq89 (Or.inl rfl) ?_
        refine xe_seg ok 1 (G := (fun K => if q89.1 = (0 : Int32) then K (148, xm_i148, xm_I148, 0, 0, 67, [(0, .ref 57), (1, .long q71)], [], xw_W (xy_a (xy_a (xy_a (xy_a (xy_a (xy_a (xy_a A 14 t_kinds_mayBeNothing) 12 q83.2.2.1) 13 t_kinds_sort) 51 t_words_begin) 52 t_words_end) 53 t_words_first) 2 t_words_page_signs) (xy_l L 11 q83.2.1) (xy_s (xy_s (xy_s (xy_s S 10 0 q83.2.2.2) 50 6 q89.2) 1 1 t_words_page_length) 50 5 t_words_total)) else K (148, xm_i148, xm_I148, 0, 0, 69, [(0, .ref 57), (1, .long q71)], [], xw_W (xy_a (xy_a (xy_a (xy_a (xy_a (xy_a (xy_a A 14 t_kinds_mayBeNothing) 12 q83.2.2.1) 13 t_kinds_sort) 51 t_words_begin) 52 t_words_end) 53 t_words_first) 2 t_words_page_signs) (xy_l L 11 q83.2.1) (xy_s (xy_s (xy_s (xy_s S 10 0 q83.2.2.2) 50 6 q89.2) 1 1 t_words_page_length) 50 5 t_words_total)))) (fun K => rfl) ?_
        rcases xb_if h with ⟨hc90, h⟩ | ⟨hc90, h⟩
        · refine xe_pos hc90 (xe_k ?_)
          obtain rfl := Option.some.inj h
          refine xe_seg ok 2 (G := (fun _ => some (.inl (some (.int ((0 : Int32)))), xw_W (xy_a (xy_a (xy_a (xy_a (xy_a (xy_a (xy_a A 14 t_kinds_mayBeNothing) 12 q83.2.2.1) 13 t_kinds_sort) 51 t_words_begin) 52 t_words_end) 53 t_words_first) 2 t_words_page_signs) (xy_l L 11 q83.2.1) (xy_s (xy_s (xy_s (xy_s S 10 0 q83.2.2.2) 50 6 q89.2) 1 1 t_words_page_length) 50 5 t_words_total)))) (fun K => rfl) ?_
          exact xe_ret
        · refine xe_neg hc90 (xe_k ?_)
          refine xe_seg ok 2 (G := (fun K => K (148, xm_i148, xm_I148, 0, 0, 71, [(0, .ref 57), (1, .long q71), (3, .int ((0 : Int32)))], [], xw_W (xy_a (xy_a (xy_a (xy_a (xy_a (xy_a (xy_a A 14 t_kinds_mayBeNothing) 12 q83.2.2.1) 13 t_kinds_sort) 51 t_words_begin) 52 t_words_end) 53 t_words_first) 2 t_words_page_signs) (xy_l L 11 q83.2.1) (xy_s (xy_s (xy_s (xy_s S 10 0 q83.2.2.2) 50 6 q89.2) 1 1 t_words_page_length) 50 5 t_words_total)))) (fun K => rfl) ?_
          refine xe_k ?_
          refine xe_sub [true, false, true] (lv' := [(0, .ref 57), (3, .int ((0 : Int32)))]) rfl ?_
          exact xh_sr_readKind_55_71 ok A L S t_words_begin t_words_end t_words_first t_words_page_length t_words_page_signs t_words_total n n t_kinds_mayBeNothing q83.2.1 q83.2.2.1 t_kinds_sort q83.2.2.2 q89.2 ((0 : Int32)) _ h
      · refine xe_neg hc78 (xe_k ?_)
        refine xe_sub [false, false] (lv' := []) rfl ?_
        exact xh_sr_readKind_55_38 ok A L S t_words_begin t_words_end t_words_first t_words_page_length t_words_page_signs t_words_total n t_kinds_mayBeNothing t_kinds_name t_kinds_size t_kinds_sort t_kinds_total t_words_now _ h
    · refine xe_neg hc73 (xe_k ?_)
      refine xe_sub [false, false] (lv' := []) rfl ?_
      exact xh_sr_readKind_55_38 ok A L S t_words_begin t_words_end t_words_first t_words_page_length t_words_page_signs t_words_total n t_kinds_mayBeNothing t_kinds_name t_kinds_size t_kinds_sort t_kinds_total t_words_now _ h
theorem xh_sr_readAll_55_18 {l : Launch} {g : xr_G} (ok : xr_OK xm_P) (A : Nat → Nat → Int32) (L : Nat → Nat → Int64) (S : Nat → Nat → Int32) (t_words_page_length : Int32) (t_words_page_signs : (Nat → Int32)) (n : Nat) : ∀ (N : Nat) (t_kinds_mayBeNothing : (Nat → Int32)) (t_kinds_name : (Nat → Int64)) (t_kinds_size : (Nat → Int32)) (t_kinds_sort : (Nat → Int32)) (t_kinds_total : Int32) (t_words_begin : (Nat → Int32)) (t_words_digits : (Nat → Int32)) (t_words_end : (Nat → Int32)) (t_words_first : (Nat → Int32)) (t_words_now : Int32) (t_words_total : Int32) (v1 : Int32) (r : (Int32 × (Nat → Int32) × (Nat → Int64) × (Nat → Int32) × (Nat → Int32) × Int32 × (Nat → Int32) × (Nat → Int32) × (Nat → Int32) × (Nat → Int32) × Int32 × Int32)), xf_sr_readAll_18 t_words_page_length t_words_page_signs n N t_kinds_mayBeNothing t_kinds_name t_kinds_size t_kinds_sort t_kinds_total t_words_begin t_words_digits t_words_end t_words_first t_words_now t_words_total v1 = some r → xV xm_P l g (147, xm_i147, xm_I147, 0, 0, 18, [(0, .ref 57), (1, .int v1)], [], xw_W (xy_a (xy_a (xy_a (xy_a (xy_a (xy_a (xy_a (xy_a A 14 t_kinds_mayBeNothing) 12 t_kinds_size) 13 t_kinds_sort) 51 t_words_begin) 54 t_words_digits) 52 t_words_end) 53 t_words_first) 2 t_words_page_signs) (xy_l L 11 t_kinds_name) (xy_s (xy_s (xy_s (xy_s S 10 0 t_kinds_total) 50 6 t_words_now) 1 1 t_words_page_length) 50 5 t_words_total)) (.inl (some (.int r.1)), xw_W (xy_a (xy_a (xy_a (xy_a (xy_a (xy_a (xy_a (xy_a A 14 r.2.1) 12 r.2.2.2.1) 13 r.2.2.2.2.1) 51 r.2.2.2.2.2.2.1) 54 r.2.2.2.2.2.2.2.1) 52 r.2.2.2.2.2.2.2.2.1) 53 r.2.2.2.2.2.2.2.2.2.1) 2 t_words_page_signs) (xy_l L 11 r.2.2.1) (xy_s (xy_s (xy_s (xy_s S 10 0 r.2.2.2.2.2.1) 50 6 r.2.2.2.2.2.2.2.2.2.2.1) 1 1 t_words_page_length) 50 5 r.2.2.2.2.2.2.2.2.2.2.2)) := by
  intro N
  induction N with
  | zero => intro t_kinds_mayBeNothing t_kinds_name t_kinds_size t_kinds_sort t_kinds_total t_words_begin t_words_digits t_words_end t_words_first t_words_now t_words_total v1 r h; cases h
  | succ N hk18 =>
    intro t_kinds_mayBeNothing t_kinds_name t_kinds_size t_kinds_sort t_kinds_total t_words_begin t_words_digits t_words_end t_words_first t_words_now t_words_total v1 r h
    refine xe_seg ok 3 (G := (fun K => if ((12 : Int32)) < v1 then K (147, xm_i147, xm_I147, 0, 0, 49, [(0, .ref 57), (1, .int v1)], [], xw_W (xy_a (xy_a (xy_a (xy_a (xy_a (xy_a (xy_a (xy_a A 14 t_kinds_mayBeNothing) 12 t_kinds_size) 13 t_kinds_sort) 51 t_words_begin) 54 t_words_digits) 52 t_words_end) 53 t_words_first) 2 t_words_page_signs) (xy_l L 11 t_kinds_name) (xy_s (xy_s (xy_s (xy_s S 10 0 t_kinds_total) 50 6 t_words_now) 1 1 t_words_page_length) 50 5 t_words_total)) else K (147, xm_i147, xm_I147, 0, 0, 24, [(0, .ref 57), (1, .int v1)], [], xw_W (xy_a (xy_a (xy_a (xy_a (xy_a (xy_a (xy_a (xy_a A 14 t_kinds_mayBeNothing) 12 t_kinds_size) 13 t_kinds_sort) 51 t_words_begin) 54 t_words_digits) 52 t_words_end) 53 t_words_first) 2 t_words_page_signs) (xy_l L 11 t_kinds_name) (xy_s (xy_s (xy_s (xy_s S 10 0 t_kinds_total) 50 6 t_words_now) 1 1 t_words_page_length) 50 5 t_words_total)))) (fun K => rfl) ?_
    rcases xb_if h with ⟨hc53, h⟩ | ⟨hc53, h⟩
    · refine xe_pos hc53 (xe_k ?_)
      refine xe_sub [false, false] (lv' := []) rfl ?_
      exact xh_sr_readAll_55_49 ok A L S t_words_page_length t_words_page_signs n t_kinds_mayBeNothing t_kinds_name t_kinds_size t_kinds_sort t_kinds_total t_words_begin t_words_digits t_words_end t_words_first t_words_now t_words_total _ h
    · refine xe_neg hc53 (xe_k ?_)
      refine xe_seg ok 3 (G := (fun K => xr_back K 147 xm_i147 xm_I147 0 0 28 [(0, .ref 57), (1, .int v1)] [] 78 true (K (154, xm_i154, xm_I154, 0, 0, 0, [(0, .ref 52)], [], xw_W (xy_a (xy_a (xy_a (xy_a (xy_a (xy_a (xy_a (xy_a A 14 t_kinds_mayBeNothing) 12 t_kinds_size) 13 t_kinds_sort) 51 t_words_begin) 54 t_words_digits) 52 t_words_end) 53 t_words_first) 2 t_words_page_signs) (xy_l L 11 t_kinds_name) (xy_s (xy_s (xy_s (xy_s S 10 0 t_kinds_total) 50 6 t_words_now) 1 1 t_words_page_length) 50 5 t_words_total))))) (fun K => rfl) ?_
      obtain ⟨q56, hq56, h⟩ := Option.bind_eq_some_iff.mp h
      have heq56 := xh_wd_more_50 (l := l) (g := g) ok (xy_a (xy_a (xy_a (xy_a (xy_a (xy_a (xy_a (xy_a A 14 t_kinds_mayBeNothing) 12 t_kinds_size) 13 t_kinds_sort) 51 t_words_begin) 54 t_words_digits) 52 t_words_end) 53 t_words_first) 2 t_words_page_signs) (xy_l L 11 t_kinds_name) (xy_s (xy_s (xy_s (xy_s S 10 0 t_kinds_total) 50 6 t_words_now) 1 1 t_words_page_length) 50 5 t_words_total) t_words_now t_words_total _ hq56
      refine xe_call1 (ws' := xw_W (xy_a (xy_a (xy_a (xy_a (xy_a (xy_a (xy_a (xy_a A 14 t_kinds_mayBeNothing) 12 t_kinds_size) 13 t_kinds_sort) 51 t_words_begin) 54 t_words_digits) 52 t_words_end) 53 t_words_first) 2 t_words_page_signs) (xy_l L 11 t_kinds_name) (xy_s (xy_s (xy_s (xy_s S 10 0 t_kinds_total) 50 6 t_words_now) 1 1 t_words_page_length) 50 5 t_words_total)) (by decide) heq56 (Or.inl rfl) ?_
      refine xe_seg ok 1 (G := (fun K => if q56 = (0 : Int32) then K (147, xm_i147, xm_I147, 0, 0, 49, [(0, .ref 57), (1, .int v1)], [], xw_W (xy_a (xy_a (xy_a (xy_a (xy_a (xy_a (xy_a (xy_a A 14 t_kinds_mayBeNothing) 12 t_kinds_size) 13 t_kinds_sort) 51 t_words_begin) 54 t_words_digits) 52 t_words_end) 53 t_words_first) 2 t_words_page_signs) (xy_l L 11 t_kinds_name) (xy_s (xy_s (xy_s (xy_s S 10 0 t_kinds_total) 50 6 t_words_now) 1 1 t_words_page_length) 50 5 t_words_total)) else K (147, xm_i147, xm_I147, 0, 0, 34, [(0, .ref 57), (1, .int v1)], [], xw_W (xy_a (xy_a (xy_a (xy_a (xy_a (xy_a (xy_a (xy_a A 14 t_kinds_mayBeNothing) 12 t_kinds_size) 13 t_kinds_sort) 51 t_words_begin) 54 t_words_digits) 52 t_words_end) 53 t_words_first) 2 t_words_page_signs) (xy_l L 11 t_kinds_name) (xy_s (xy_s (xy_s (xy_s S 10 0 t_kinds_total) 50 6 t_words_now) 1 1 t_words_page_length) 50 5 t_words_total)))) (fun K => rfl) ?_
      rcases xb_if h with ⟨hc57, h⟩ | ⟨hc57, h⟩
      · refine xe_pos hc57 (xe_k ?_)
        refine xe_sub [false, false] (lv' := []) rfl ?_
        exact xh_sr_readAll_55_49 ok A L S t_words_page_length t_words_page_signs n t_kinds_mayBeNothing t_kinds_name t_kinds_size t_kinds_sort t_kinds_total t_words_begin t_words_digits t_words_end t_words_first t_words_now t_words_total _ h
      · refine xe_neg hc57 (xe_k ?_)
        refine xe_seg ok 2 (G := (fun K => xr_back K 147 xm_i147 xm_I147 0 0 35 [(0, .ref 57), (1, .int v1)] [] 78 true (K (148, xm_i148, xm_I148, 0, 0, 0, [(0, .ref 57)], [], xw_W (xy_a (xy_a (xy_a (xy_a (xy_a (xy_a (xy_a (xy_a A 14 t_kinds_mayBeNothing) 12 t_kinds_size) 13 t_kinds_sort) 51 t_words_begin) 54 t_words_digits) 52 t_words_end) 53 t_words_first) 2 t_words_page_signs) (xy_l L 11 t_kinds_name) (xy_s (xy_s (xy_s (xy_s S 10 0 t_kinds_total) 50 6 t_words_now) 1 1 t_words_page_length) 50 5 t_words_total))))) (fun K => rfl) ?_
        obtain ⟨q107, hq107, h⟩ := Option.bind_eq_some_iff.mp h
        have heq107 := xh_sr_readKind_55 (l := l) (g := g) ok (xy_a (xy_a (xy_a (xy_a (xy_a (xy_a (xy_a (xy_a A 14 t_kinds_mayBeNothing) 12 t_kinds_size) 13 t_kinds_sort) 51 t_words_begin) 54 t_words_digits) 52 t_words_end) 53 t_words_first) 2 t_words_page_signs) (xy_l L 11 t_kinds_name) (xy_s (xy_s (xy_s (xy_s S 10 0 t_kinds_total) 50 6 t_words_now) 1 1 t_words_page_length) 50 5 t_words_total) t_words_begin t_words_end t_words_first t_words_page_length t_words_page_signs t_words_total n t_kinds_mayBeNothing t_kinds_name t_kinds_size t_kinds_sort t_kinds_total t_words_now _ hq107
        refine xe_call1 (ws' := xw_W (xy_a (xy_a (xy_a (xy_a (xy_a (xy_a (xy_a (xy_a A 14 q107.2.1) 12 q107.2.2.2.1) 13 q107.2.2.2.2.1) 51 t_words_begin) 54 t_words_digits) 52 t_words_end) 53 t_words_first) 2 t_words_page_signs) (xy_l L 11 q107.2.2.1) (xy_s (xy_s (xy_s (xy_s S 10 0 q107.2.2.2.2.2.1) 50 6 q107.2.2.2.2.2.2) 1 1 t_words_page_length) 50 5 t_words_total)) (by decide) heq107 (Or.inl rfl) ?_
        refine xe_seg ok 1 (G := (fun K => if q107.1 = (0 : Int32) then K (147, xm_i147, xm_I147, 0, 0, 41, [(0, .ref 57), (1, .int v1)], [], xw_W (xy_a (xy_a (xy_a (xy_a (xy_a (xy_a (xy_a (xy_a A 14 q107.2.1) 12 q107.2.2.2.1) 13 q107.2.2.2.2.1) 51 t_words_begin) 54 t_words_digits) 52 t_words_end) 53 t_words_first) 2 t_words_page_signs) (xy_l L 11 q107.2.2.1) (xy_s (xy_s (xy_s (xy_s S 10 0 q107.2.2.2.2.2.1) 50 6 q107.2.2.2.2.2.2) 1 1 t_words_page_length) 50 5 t_words_total)) else K (147, xm_i147, xm_I147, 0, 0, 43, [(0, .ref 57), (1, .int v1)], [], xw_W (xy_a (xy_a (xy_a (xy_a (xy_a (xy_a (xy_a (xy_a A 14 q107.2.1) 12 q107.2.2.2.1) 13 q107.2.2.2.2.1) 51 t_words_begin) 54 t_words_digits) 52 t_words_end) 53 t_words_first) 2 t_words_page_signs) (xy_l L 11 q107.2.2.1) (xy_s (xy_s (xy_s (xy_s S 10 0 q107.2.2.2.2.2.1) 50 6 q107.2.2.2.2.2.2) 1 1 t_words_page_length) 50 5 t_words_total)))) (fun K => rfl) ?_
        rcases xb_if h with ⟨hc108, h⟩ | ⟨hc108, h⟩
        · refine xe_pos hc108 (xe_k ?_)
          obtain rfl := Option.some.inj h
          refine xe_seg ok 2 (G := (fun _ => some (.inl (some (.int ((0 : Int32)))), xw_W (xy_a (xy_a (xy_a (xy_a (xy_a (xy_a (xy_a (xy_a A 14 q107.2.1) 12 q107.2.2.2.1) 13 q107.2.2.2.2.1) 51 t_words_begin) 54 t_words_digits) 52 t_words_end) 53 t_words_first) 2 t_words_page_signs) (xy_l L 11 q107.2.2.1) (xy_s (xy_s (xy_s (xy_s S 10 0 q107.2.2.2.2.2.1) 50 6 q107.2.2.2.2.2.2) 1 1 t_words_page_length) 50 5 t_words_total)))) (fun K => rfl) ?_
          exact xe_ret
        · refine xe_neg hc108 (xe_k ?_)
          refine xe_seg ok 2 (G := (fun K => K (147, xm_i147, xm_I147, 0, 0, 18, [(0, .ref 57), (1, .int (v1 + (1 : Int32)))], [], xw_W (xy_a (xy_a (xy_a (xy_a (xy_a (xy_a (xy_a (xy_a A 14 q107.2.1) 12 q107.2.2.2.1) 13 q107.2.2.2.2.1) 51 t_words_begin) 54 t_words_digits) 52 t_words_end) 53 t_words_first) 2 t_words_page_signs) (xy_l L 11 q107.2.2.1) (xy_s (xy_s (xy_s (xy_s S 10 0 q107.2.2.2.2.2.1) 50 6 q107.2.2.2.2.2.2) 1 1 t_words_page_length) 50 5 t_words_total)))) (fun K => rfl) ?_
          refine xe_k ?_
          refine xe_sub [true, true] (lv' := [(0, .ref 57), (1, .int (v1 + (1 : Int32)))]) rfl ?_
          exact hk18 q107.2.1 q107.2.2.1 q107.2.2.2.1 q107.2.2.2.2.1 q107.2.2.2.2.2.1 t_words_begin t_words_digits t_words_end t_words_first q107.2.2.2.2.2.2 t_words_total (v1 + (1 : Int32)) _ h
