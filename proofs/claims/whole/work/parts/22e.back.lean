section
variable {P : xr_P} {l : Launch} {g : xr_G}
/-! calls that return -/
theorem xr_Sx_moved {u U : State} {H H1 : Heap} (ha : u.vm.Alike U.vm) (hk : ∀ a : Nat, a < H.size → ¬ xg_A g a → H1[a]? = H[a]?) (h : xr_Sx g u H) : xr_Sx g U H1 := by
  obtain ⟨⟨adV, h1⟩, h2⟩ := h
  exact ⟨⟨adV, (h1.kept hk).moved ha⟩, (h2.kept hk).moved ha⟩
theorem xr_Fx_moved {U s : State} {H : Heap} {locs : List Loc} (h : xr_Fx P g s s.heap) (hW : s.WarmedH U.vm) (hS : va_S (xg_A g) s.heap H locs) : xr_Fx P g U H := by
  obtain ⟨h1, h2, ⟨h3, h4⟩, h5, h6, h7, h8⟩ := h
  have ha := hW.alike
  have hk : ∀ a : Nat, a < s.heap.size → ¬ xg_A g a → H[a]? = s.heap[a]? := hS.2.1
  refine ⟨va_K.moved ha h1, va_X.moved ha (h2.kept (hk _ (Nat.lt_of_lt_of_le h3 h4) (Nat.not_le.mpr h3))), ⟨h3, Nat.le_trans h4 hS.1⟩, fun q hq => ?_, ⟨vk_R.warm hW h6.1, xr_Sx_moved ha hk h6.2⟩, fun q hq => (h7 q hq).moved ha, fun w hw a' V hV hq => h8 w hw a' V (State.WarmedH.trans hW hV) (fun q hlo => (hq q hlo).trans (hk q (Nat.lt_of_lt_of_le hlo h4) (Nat.not_le.mpr hlo)))⟩
  obtain ⟨sa, hsa⟩ := h5 q hq
  exact ⟨sa, vk_R.warm hW hsa⟩
theorem xr_blind (ad : Nat → Nat) (ws : xr_W) (As : List Value) : FrameBlind (xr_Pc P g ad ws As) := by
  intro a U f mk h
  obtain ⟨e1, ⟨h1, h2, h3, h5, h6, h7, h8⟩, h10⟩ := h
  have ha : U.vm.Alike (U.calling f mk a).vm := Vm.Alike.refl U.vm
  refine ⟨e1, ⟨va_K.moved (u := U) (U := U.calling f mk a) ha h1, va_X.moved (u := U) (U := U.calling f mk a) ha h2, h3, fun q hq => ?_, ⟨vk_R.same (u := U) (U := U.calling f mk a) rfl h6.1, xr_Sx_moved (u := U) (U := U.calling f mk a) ha (fun _ _ _ => rfl) h6.2⟩, fun q hq => va_Nc.moved (u := U) (U := U.calling f mk a) ha (h7 q hq), fun w hw a' V hV hq => h8 w hw a' V hV hq⟩, h10⟩
  obtain ⟨sa, hsa⟩ := h5 q hq
  exact ⟨sa, vk_R.same (u := U) (U := U.calling f mk a) rfl hsa⟩
theorem xr_pre {s : State} {ad : Nat → Nat} {ws : xr_W} {As : List Value} {H : Heap} {locs : List Loc} (h : xr_Fx P g s s.heap) (hS : va_S (xg_A g) s.heap H locs) (hA : xr_At P g ad ws H) : ∀ U : State, U.heap = H → s.WarmedH U.vm → xr_Pc P g ad ws As (As.map (xr_v ad)).toArray U :=
  fun U hU hW => ⟨rfl, by rw [hU]; exact xr_Fx_moved h hW hS, by rw [hU]; exact hA⟩
/-- the heap behind a call -/
theorem xr_kept {s st₀ t T' : State} {H : Heap} {locs L : List Loc} (h0 : st₀.heap = H) (e1 : T'.heap = t.heap) (hS : va_S (xg_A g) s.heap H locs) (hL : ∀ q ∈ L, xg_A g q.base) (hF : va_F (xg_A g) st₀ t) : va_S (xg_A g) s.heap T'.heap (locs ++ L) := by
  obtain ⟨f1, f2⟩ := hF
  rw [h0] at f1 f2
  rw [e1]
  refine ⟨Nat.le_trans hS.1 f1, fun q q1 q2 => (f2 q (Nat.lt_of_lt_of_le q1 hS.1) q2).trans (hS.2.1 q q1 q2), fun z hz => ?_⟩
  rcases List.mem_append.mp hz with hz | hz
  · exact hS.2.2 z hz
  · exact hL z hz
theorem xr_aft {p : Program} {e : Env} {R : Room} {s : State} {m : MethodId} {args : Array Value} {below : List Frame} {meth : Method} {c : Code} {H : Heap} {locs : List Loc} {ce sl mc ms pc n : Nat} {ls : Array Slot} {st0 rest : List Value} {Q : State → Prop} {ad : Nat → Nat} {al : Bool} {r' : xr_R} {as : Array Value}
    (hr : va_Run p l e R s m args below meth c H locs ce sl mc ms (F0 m pc ls st0) rest (xr_Qc P g ad n al r' as) (xg_A g)) (hS : va_S (xg_A g) s.heap H locs)
    (kn : ∀ (v' : Option Value) (ad' : Nat → Nat) (H1 : Heap) (locs1 : List Loc), r'.1 = .inl v' → (∀ k, k < n + 2 → ad' k = ad k) → (al = false → ad' = ad) → xr_At P g ad' r'.2 H1 → va_S (xg_A g) s.heap H1 locs1 → W p l e R s m args below meth c H1 locs1 (ce + mc) (sl + ms) Q (F0 m (pc + 3) ls ((v'.map (xr_v ad')).toList ++ rest))) :
    W p l e R s m args below meth c H locs ce sl Q (F0 m pc ls st0) := by
  intro T hT X
  obtain ⟨v, st₀, t, T', L, h0, X', hL, e1, e2, ⟨v', ad', hr1, hag, hal, ho, hAt, hF⟩, st⟩ := hr T hT X
  cases ho
  obtain ⟨t2, a1, b1⟩ := kn v' ad' T'.heap (locs ++ L) hr1 hag hal (by rw [e1]; exact hAt) (xr_kept h0 e1 hS hL hF) T' rfl X'
  exact ⟨t2, st t2 a1, b1⟩
/-- what comes back from a call goes on -/
theorem xr_goon {k : xr_K → Option xr_R} (hk : xr_Go P l g k) {M ce sl pc n0 : Nat} {lv : List (Nat × Value)} {rest st0 : List Value} {ws : xr_W} {r r' : xr_R} {mc ms : Nat} {al th : Bool} {as : Array Value}
    (h : xr_back k M (xp_B P M).1 (xp_B P M).2 (ce + mc) (sl + ms) pc lv rest ws.length th (some r') = some r) (hal : al = false ∨ ((xp_I P M).2.2.1 = true ∧ (lv.all fun q => xr_le ws.length q.2) = true ∧ (rest.all (xr_le ws.length)) = true)) (h1 : ce + mc ≤ (xp_I P M).1) (h2 : sl + ms ≤ (xp_I P M).2.1)
    {p : Program} {e : Env} {s : State} {m : MethodId} {args : Array Value} {below : List Frame} {meth : Method} {c : Code} {H : Heap} {locs : List Loc} {ls : Array Slot} {ad ad0 : Nat → Nat} (cx : xr_Cx P l g M p s m args meth c) (lo : xr_Lo P M ce sl ws ad ad0 n0) (hl : lv_has ls (xp_ml P M) (xr_l ad lv)) (hS : va_S (xg_A g) s.heap H locs)
    (hr : va_Run p l e (xp_rm P M) s m args below meth c H locs ce sl mc ms (F0 m pc ls st0) (rest.map (xr_v ad)) (xr_Qc P g ad ws.length al r' as) (xg_A g)) :
    W p l e (xp_rm P M) s m args below meth c H locs ce sl (xr_QQ P g M ad0 n0 r below args s) (F0 m pc ls st0) := by
  refine xr_aft hr hS ?_
  intro v' ad' H1 locs1 hr1 hag hal' hAt hS1
  have hlv : xr_l ad' lv = xr_l ad lv := by
    rcases hal with z | ⟨-, z, -⟩
    · rw [hal' z]
    · exact xr_l_eq hag z
  have hrs : rest.map (xr_v ad') = rest.map (xr_v ad) := by
    rcases hal with z | ⟨-, -, z⟩
    · rw [hal' z]
    · exact xr_vs_eq hag z
  have hlo : ((xp_I P M).2.2.1 = false ∨ ws.length ≤ r'.2.length) → xr_Lo P M (ce + mc) (sl + ms) r'.2 ad' ad0 n0 := by
    intro hw
    refine ⟨h1, h2, fun z => ?_, fun k hk9 => ?_, fun z => ?_⟩
    · rcases hw with w | w
      · rw [z] at w; cases w
      · exact Nat.le_trans (lo.2.2.1 z) w
    · rcases hal with z | ⟨z, -, -⟩
      · rw [hal' z]; exact lo.2.2.2.1 k hk9
      · exact (hag k (by have := lo.2.2.1 z; omega)).trans (lo.2.2.2.1 k hk9)
    · rcases hal with w | ⟨w, -, -⟩
      · rw [hal' w]; exact lo.2.2.2.2 z
      · rw [z] at w; cases w
  obtain ⟨r1, w⟩ := r'
  cases hr1
  cases v' with
  | none =>
    obtain ⟨hw, h⟩ := xn_if (show (if (xp_I P M).2.2.1 = false ∨ ws.length ≤ w.length then k (M, (xp_B P M).1, (xp_B P M).2, ce + mc, sl + ms, pc + 3, lv, rest, w) else none) = some r from h)
    have h9 := hk _ _ _ _ _ _ _ _ h p e s m args below meth c H1 locs1 ls ad' ad0 n0 cx (hlo hw) (by rw [hlv]; exact hl) hAt hS1
    rw [hrs] at h9
    exact h9
  | some y =>
    obtain ⟨hw, h⟩ := xn_if (show (if (xp_I P M).2.2.1 = false ∨ ws.length ≤ w.length then k (M, (xp_B P M).1, (xp_B P M).2, ce + mc, sl + ms, pc + 3, lv, y :: rest, w) else none) = some r from h)
    have h9 := hk _ _ _ _ _ _ _ _ h p e s m args below meth c H1 locs1 ls ad' ad0 n0 cx (hlo hw) (by rw [hlv]; exact hl) hAt hS1
    rw [List.map_cons, hrs] at h9
    exact h9
end
