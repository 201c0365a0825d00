section
variable {P : xr_P} {l : Launch} {g : xr_G} {M ce sl pc : Nat} {lv : List (Nat × Value)} {st rs : List Value} {ws : xr_W} {r : xr_R}
/-! the library's own calls -/
theorem xr_rest_le {rs : List Value} {ad : Nat → Nat} {n : Nat} (h : (rs.map Value.category).sum ≤ n) : ((rs.map (xr_v ad)).map fun v => v.category).sum ≤ n := by
  rw [show ((rs.map (xr_v ad)).map fun v => v.category) = (rs.map (xr_v ad)).map Value.category from rfl, xr_v_cats]
  exact h
theorem xj_objInit {k x : Nat} (hd : decode (xp_cd P M) pc = .ok (.invokespecial k, 3)) (hrl : xr_rl P M) (h1 : Cond.methodLink (xp_own P M) k Lib.objectInit ∈ xp_T P) (h2 : Cond.instanceMethod Lib.objectInit ∈ xp_T P) (h3 : Cond.code Lib.objectInit ⟨#[0xb1]⟩ 1 none ∈ xp_T P) (hc : (rs.map Value.category).sum ≤ 8)
    (h : xr_J P l g M ce sl (pc + 3) lv rs ws r) : xr_J P l g M ce sl pc lv (.ref x :: rs) ws r := by
  intro p e s m args below meth c H locs ls ad ad0 n0 cx lo hl hA hS
  have h9 := lv_room (m := m) (pc := pc) (ls := ls) (rest := (.ref x :: rs).map (xr_v ad)) (xr_rest_le (ad := ad) hc)
  refine W.objInit (g := F0 m pc ls ((.ref x :: rs).map (xr_v ad))) (xc_ex cx) (xc_cd cx) (xc_ow cx) (xc_ts cx _ h1) (xc_ts cx _ h2) (xc_ts cx _ h3) rfl (hl.1.trans (xc_ml cx).symm) (a := ad x) (rest := rs.map (xr_v ad)) rfl hd hrl.1 ?_ (h p e s m args below meth c H locs ls ad ad0 n0 cx lo hl hA hS)
  have := hrl.2
  omega
theorem xj_mmax {k : Nat} {x y : Int32} (hd : decode (xp_cd P M) pc = .ok (.invokestatic k, 3)) (hrl : xr_rl P M) (h1 : Cond.methodLink (xp_own P M) k Lib.Math.max.name ∈ xp_T P) (h2 : Cond.static Lib.Math.max.name ∈ xp_T P) (h3 : Cond.initialized "java/lang/Math" ∈ xp_T P) (h4 : Cond.code Lib.Math.max.name Lib.Math.max.code 2 (some .int) ∈ xp_T P) (hc : (rs.map Value.category).sum ≤ 8)
    (h : xr_J P l g M ce sl (pc + 3) lv (.int (if x < y then y else x) :: rs) ws r) : xr_J P l g M ce sl pc lv (.int y :: .int x :: rs) ws r := by
  intro p e s m args below meth c H locs ls ad ad0 n0 cx lo hl hA hS
  refine va_mmax (xc_ex cx) (xc_cd cx) ((xc_ml cx).trans hl.1.symm) (xc_ow cx) (xc_ts cx _ h1) (xc_ts cx _ h2) (xc_ts cx _ h3) (xc_ts cx _ h4) hrl.1 ?_ lo.1 lo.2.1 hd (h p e s m args below meth c H locs ls ad ad0 n0 cx lo hl hA hS)
  have := hrl.2
  have := xr_rest_le (ad := ad) hc
  omega
theorem xj_copyi {k j0 j1 n0' n1 t : Nat} {f gg : Nat → Int32} {sp dp n : Int32} (hd : decode (xp_cd P M) pc = .ok (.invokestatic k, 3)) (hrl : xr_rl P M) (h1 : Cond.methodLink (xp_own P M) k arraycopyName ∈ xp_T P) (h2 : Cond.native arraycopyName ∈ xp_T P) (h3 : Cond.static arraycopyName ∈ xp_T P) (h4 : Cond.initialized "java/lang/System" ∈ xp_T P) (hc : (rs.map Value.category).sum ≤ 8) (ht : t < 4) (hj0 : ws[j0]? = some (.inl (t, n0', .inl f))) (hj1 : ws[j1]? = some (.inl (t, n1, .inl gg))) (hq : (¬ sp < 0 ∧ ¬ dp < 0 ∧ ¬ n < 0) ∧ sp.toNatClampNeg + n.toNatClampNeg ≤ n0' ∧ dp.toNatClampNeg + n.toNatClampNeg ≤ n1) (hfit : ∀ i, i < n.toNatClampNeg → fits (xt_at t) (.int (f (sp.toNatClampNeg + i))) = true)
    (h : xr_J P l g M ce sl (pc + 3) lv rs (ws.set j1 (.inl (t, n1, .inl (va_cpy f gg sp.toNatClampNeg dp.toNatClampNeg n.toNatClampNeg)))) r) : xr_J P l g M ce sl pc lv (.int n :: .int dp :: .ref (j1 + 2) :: .int sp :: .ref (j0 + 2) :: rs) ws r := by
  intro p e s m args below meth c H locs ls ad ad0 n0 cx lo hl hA hS
  have hprim : refKind (xt_at t) = false := by
    match t, ht with
    | 0, _ => rfl
    | 1, _ => rfl
    | 2, _ => rfl
    | 3, _ => rfl
  refine va_copyi (xc_ex cx) (xc_cd cx) ((xc_ml cx).trans hl.1.symm) (xc_ow cx) (xc_ts cx _ h1) (xc_ts cx _ h2) (xc_ts cx _ h3) (xc_ts cx _ h4) (xc_fx cx).1 hA.1 hA.2.1 hS j0 j1 t t (xr_w_at (g := g) (ad := ad) hj0) (xr_w_at (g := g) (ad := ad) hj1) (xr_tys_at g ht) (xr_tys_at g ht) hprim hq.1.1 hq.1.2.1 hq.1.2.2 hq.2.1 hq.2.2 hfit hrl.1 ?_ hd (fun H1 locs1 g1 g2 g3 => ?_)
  · have h20 := hrl.2
    have h8 := xr_rest_le (ad := ad) hc
    have h7 : nativeFrameWords "java/lang/System" "arraycopy" 5 = 7 := by decide
    omega
  · exact h p e s m args below meth c H1 locs1 ls ad ad0 n0 cx (xr_Lo_set lo) hl (xr_At_set (c := .inl (t, n1, .inl (va_cpy f gg sp.toNatClampNeg dp.toNatClampNeg n.toNatClampNeg))) hA g1 g2) g3
theorem xj_copyl {k j0 j1 n0' n1 : Nat} {f gg : Nat → Int64} {sp dp n : Int32} (hd : decode (xp_cd P M) pc = .ok (.invokestatic k, 3)) (hrl : xr_rl P M) (h1 : Cond.methodLink (xp_own P M) k arraycopyName ∈ xp_T P) (h2 : Cond.native arraycopyName ∈ xp_T P) (h3 : Cond.static arraycopyName ∈ xp_T P) (h4 : Cond.initialized "java/lang/System" ∈ xp_T P) (hc : (rs.map Value.category).sum ≤ 8) (hj0 : ws[j0]? = some (.inl (1, n0', .inr (.inl f)))) (hj1 : ws[j1]? = some (.inl (1, n1, .inr (.inl gg)))) (hq : (¬ sp < 0 ∧ ¬ dp < 0 ∧ ¬ n < 0) ∧ sp.toNatClampNeg + n.toNatClampNeg ≤ n0' ∧ dp.toNatClampNeg + n.toNatClampNeg ≤ n1)
    (h : xr_J P l g M ce sl (pc + 3) lv rs (ws.set j1 (.inl (1, n1, .inr (.inl (va_cpy f gg sp.toNatClampNeg dp.toNatClampNeg n.toNatClampNeg))))) r) : xr_J P l g M ce sl pc lv (.int n :: .int dp :: .ref (j1 + 2) :: .int sp :: .ref (j0 + 2) :: rs) ws r := by
  intro p e s m args below meth c H locs ls ad ad0 n0 cx lo hl hA hS
  refine va_copyl (ty := .long) (xc_ex cx) (xc_cd cx) ((xc_ml cx).trans hl.1.symm) (xc_ow cx) (xc_ts cx _ h1) (xc_ts cx _ h2) (xc_ts cx _ h3) (xc_ts cx _ h4) (xc_fx cx).1 hA.1 hA.2.1 hS j0 j1 1 1 (xr_w_at (g := g) (ad := ad) hj0) (xr_w_at (g := g) (ad := ad) hj1) rfl rfl rfl hq.1.1 hq.1.2.1 hq.1.2.2 hq.2.1 hq.2.2 (fun _ _ => rfl) hrl.1 ?_ hd (fun H1 locs1 g1 g2 g3 => ?_)
  · have h20 := hrl.2
    have h8 := xr_rest_le (ad := ad) hc
    have h7 : nativeFrameWords "java/lang/System" "arraycopy" 5 = 7 := by decide
    omega
  · exact h p e s m args below meth c H1 locs1 ls ad ad0 n0 cx (xr_Lo_set lo) hl (xr_At_set (c := .inl (1, n1, .inr (.inl (va_cpy f gg sp.toNatClampNeg dp.toNatClampNeg n.toNatClampNeg)))) hA g1 g2) g3
theorem xj_ix {k : Nat} {x : Int32} (hd : decode (xp_cd P M) pc = .ok (.invokevirtual k, 3)) (hrl : xr_rl P M) (hx : xr_ixs P M k) (hc : (rs.map Value.category).sum ≤ 8) (h : xr_J P l g M ce sl (pc + 3) lv (.int (xr_ix x) :: rs) ws r) : xr_J P l g M ce sl pc lv (.int x :: .ref 1 :: rs) ws r := by
  intro p e s m args below meth c H locs ls ad ad0 n0 cx lo hl hA hS
  obtain ⟨adV, hV⟩ := (xc_fx cx).2.2.2.2.1.2.1
  have hX : xi_S g adV s s.heap := ⟨hV, (xc_fx cx).2.2.2.2.1.2.2⟩
  have hsa : ad 1 = xg_sa g := hA.2.2.2
  have hfix : CallFix p m c (xp_cd P M) (xp_ml P M) s args (xp_T P) (xp_own P M) := ⟨xc_ex cx, xc_cd cx, xc_ml cx, xc_ow cx, xc_ts cx⟩
  show W p l e (xp_rm P M) s m args below meth c H locs ce sl (xr_QQ P g M ad0 n0 r below args s) (F0 m pc ls (.int x :: .ref (ad 1) :: rs.map (xr_v ad)))
  rw [hsa]
  refine xi_callV (As := [.int x]) (rest := rs.map (xr_v ad)) (v := xr_ix x) (n := 1) hfix hx.2.1 (xi_ix1M x) rfl rfl ⟨hx.1, rfl⟩ rfl (xi_in 3 rfl) (xi_in 4 rfl) (xi_in 0 rfl) (xi_in 5 rfl) ⟨by decide, by decide, by decide⟩ rfl ⟨hx.2.2.1, ?_⟩ hl.1 hX hS (xr_rest_le (ad := ad) hc) hd ⟨lo.1, lo.2.1⟩ ?_
  · have := hx.2.2.2
    show 8 + (2 + 11) + 70 ≤ _
    omega
  · intro locs1 hS1
    exact h p e s m args below meth c H locs1 ls ad ad0 n0 cx lo hl hA hS1
end
