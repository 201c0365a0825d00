/-! the same, the world at the end left open -/
def xVU (P : xr_P) (l : Launch) (g : xr_G) (q : xr_K) (v : Int32) : Prop := ∃ w : xr_W, xV P l g q (.inl (some (.int v)), w)
def xXU (P : xr_P) (l : Launch) (g : xr_G) (G : (xr_K → Option xr_R) → Option xr_R) (v : Int32) : Prop := ∃ w : xr_W, xX P l g G (.inl (some (.int v)), w)
section
variable {P : xr_P} {l : Launch} {g : xr_G} {v : Int32}
theorem xu_seg (ok : xr_OK P) (n : Nat) {q : xr_K} {G : (xr_K → Option xr_R) → Option xr_R} (hG : ∀ K : xr_K → Option xr_R, xr_it (xg_sc g) (xp_B P) (xp_t P) n K q = G K) (h : xXU P l g G v) : xVU P l g q v := by
  obtain ⟨w, h⟩ := h
  exact ⟨w, xe_seg ok n hG h⟩
theorem xu_k {q : xr_K} (h : xVU P l g q v) : xXU P l g (fun K => K q) v := by
  obtain ⟨w, h⟩ := h
  exact ⟨w, xe_k h⟩
theorem xu_pos {c : Prop} [Decidable c] {A B : (xr_K → Option xr_R) → Option xr_R} (hc : c) (h : xXU P l g A v) : xXU P l g (fun K => if c then A K else B K) v := by
  obtain ⟨w, h⟩ := h
  exact ⟨w, xe_pos hc h⟩
theorem xu_neg {c : Prop} [Decidable c] {A B : (xr_K → Option xr_R) → Option xr_R} (hc : ¬ c) (h : xXU P l g B v) : xXU P l g (fun K => if c then A K else B K) v := by
  obtain ⟨w, h⟩ := h
  exact ⟨w, xe_neg hc h⟩
theorem xu_ret {w : xr_W} : xXU P l g (fun _ => some (.inl (some (.int v)), w)) v := ⟨w, xe_ret⟩
section
variable {M a ce sl pc n0 : Nat} {th : Bool} {C C' : List xr_E} {I I' : xr_M} {lv lv' : List (Nat × Value)} {rest st' : List Value} {ws ws' : xr_W} {ce' sl' pc' : Nat}
theorem xu_call0 (hne : M ≠ a) (hc : xV P l g (a, C', I', ce', sl', pc', lv', st', ws) (.inl none, ws')) (hal : I.2.2.1 = false ∨ n0 ≤ ws'.length) (h : xVU P l g (M, C, I, ce, sl, pc + 3, lv, rest, ws') v) : xXU P l g (fun K => xr_back K M C I ce sl pc lv rest n0 th (K (a, C', I', ce', sl', pc', lv', st', ws))) v := by
  obtain ⟨w, h⟩ := h
  exact ⟨w, xe_call0 hne hc hal h⟩
theorem xu_call1 {y : Value} (hne : M ≠ a) (hc : xV P l g (a, C', I', ce', sl', pc', lv', st', ws) (.inl (some y), ws')) (hal : I.2.2.1 = false ∨ n0 ≤ ws'.length) (h : xVU P l g (M, C, I, ce, sl, pc + 3, lv, y :: rest, ws') v) : xXU P l g (fun K => xr_back K M C I ce sl pc lv rest n0 th (K (a, C', I', ce', sl', pc', lv', st', ws))) v := by
  obtain ⟨w, h⟩ := h
  exact ⟨w, xe_call1 hne hc hal h⟩
theorem xu_sub {st : List Value} (m : List Bool) (hm : xr_mask m lv = lv') (h : xVU P l g (M, C, I, ce, sl, pc, lv', st, ws) v) : xVU P l g (M, C, I, ce, sl, pc, lv, st, ws) v := by
  obtain ⟨w, h⟩ := h
  exact ⟨w, xe_sub m hm h⟩
end
end
