section
variable {P : xr_P} {l : Launch} {g : xr_G}
/-! addresses that grow -/
theorem xr_v_eq {ad ad' : Nat → Nat} {n : Nat} (h : ∀ k, k < n + 2 → ad' k = ad k) {v : Value} (hv : xr_le n v = true) : xr_v ad' v = xr_v ad v := by
  cases v with
  | ref k =>
    have hk : k < n + 2 := of_decide_eq_true hv
    show Value.ref (ad' k) = Value.ref (ad k)
    rw [h k hk]
  | _ => rfl
theorem xr_vs_eq {ad ad' : Nat → Nat} {n : Nat} (h : ∀ k, k < n + 2 → ad' k = ad k) {vs : List Value} (hv : vs.all (xr_le n) = true) : vs.map (xr_v ad') = vs.map (xr_v ad) :=
  List.map_congr_left (fun v hm => xr_v_eq h (List.all_eq_true.mp hv v hm))
theorem xr_l_eq {ad ad' : Nat → Nat} {n : Nat} (h : ∀ k, k < n + 2 → ad' k = ad k) {lv : List (Nat × Value)} (hv : (lv.all fun q => xr_le n q.2) = true) : xr_l ad' lv = xr_l ad lv :=
  List.map_congr_left (fun q hm => by rw [xr_v_eq h (List.all_eq_true.mp hv q hm)])
theorem xr_c_eq {ad ad' : Nat → Nat} {n : Nat} (h : ∀ k, k < n + 2 → ad' k = ad k) {c : xr_C} (hc : xr_wle n c = true) : xr_c g ad' c = xr_c g ad c := by
  cases c with
  | inl a => rfl
  | inr o =>
    show Sum.inr (o.1, o.2.map (xr_v ad')) = Sum.inr (o.1, o.2.map (xr_v ad))
    rw [xr_vs_eq h hc]
theorem xr_w_eq {ad ad' : Nat → Nat} {ws : xr_W} (h : ∀ k, k < ws.length + 2 → ad' k = ad k) (hw : ws.all (xr_wle ws.length) = true) : xr_w g ad' ws = xr_w g ad ws := by
  apply List.ext_getElem?
  intro k
  unfold xr_w
  rw [List.getElem?_mapIdx, List.getElem?_mapIdx]
  cases hk : ws[k]? with
  | none => rfl
  | some c =>
    have hl : k < ws.length := (List.getElem?_eq_some_iff.mp hk).1
    show some (ad' (k + 2), xr_c g ad' c) = some (ad (k + 2), xr_c g ad c)
    rw [h (k + 2) (by omega), xr_c_eq h (List.all_eq_true.mp hw c (List.mem_of_getElem? hk))]
theorem xr_w_add {ad ad' : Nat → Nat} {ws : xr_W} (h : ∀ k, k < ws.length + 2 → ad' k = ad k) (hw : ws.all (xr_wle ws.length) = true) (c : xr_C) : xr_w g ad' (ws ++ [c]) = xr_w g ad ws ++ [(ad' (ws.length + 2), xr_c g ad' c)] := by
  have e1 : xr_w g ad' (ws ++ [c]) = xr_w g ad' ws ++ [(ad' (ws.length + 2), xr_c g ad' c)] := by
    unfold xr_w
    rw [List.mapIdx_concat]
  rw [e1, xr_w_eq h hw]
theorem xr_okn_of {lv : List (Nat × Value)} {st : List Value} {ws : xr_W} (h : xr_okn lv st ws = true) : (lv.all fun q => xr_le ws.length q.2) = true ∧ st.all (xr_le ws.length) = true ∧ ws.all (xr_wle ws.length) = true := by
  unfold xr_okn at h
  rw [Bool.and_eq_true, Bool.and_eq_true] at h
  exact h
def xr_up (ad : Nat → Nat) (n q : Nat) : Nat → Nat := fun i => if i = n then q else ad i
theorem xr_up_old {ad : Nat → Nat} {n q : Nat} : ∀ k, k < n → xr_up ad n q k = ad k := fun k hk => by
  unfold xr_up
  rw [if_neg (by omega)]
theorem xr_up_new {ad : Nat → Nat} {n q : Nat} : xr_up ad n q n = q := by
  unfold xr_up
  rw [if_pos rfl]
section
variable {M ce sl pc : Nat} {lv : List (Nat × Value)} {st rs : List Value} {ws : xr_W} {r : xr_R}
/-- the world has one cell more -/
theorem xr_grow {c : xr_C} {n : Nat} {p : Program} {e : Env} {s : State} {m : MethodId} {args : Array Value} {below : List Frame} {meth : Method} {cd : Code} {locs : List Loc} {ls : Array Slot} {ad ad0 : Nat → Nat} {n0 pc' q : Nat} {H H1 : Heap} (hal : (xp_I P M).2.2.1 = true) (h1 : ce + 1 ≤ (xp_I P M).1) (h2 : sl + n ≤ (xp_I P M).2.1) (hok : xr_okn lv rs ws = true) (hc : ∀ ad' : Nat → Nat, xr_c g ad' c = xr_c g ad c)
    (h : xr_J P l g M (ce + 1) (sl + n) pc' lv (.ref (ws.length + 2) :: rs) (ws ++ [c]) r) (cx : xr_Cx P l g M p s m args meth cd) (lo : xr_Lo P M ce sl ws ad ad0 n0) (hl : lv_has ls (xp_ml P M) (xr_l ad lv)) (hA : xr_At P g ad ws H)
    (hP : va_P (xg_D g) (xp_cl P) (xr_w g ad ws ++ [(q, xr_c g ad c)]) H1) (hD : va_D (xg_A g) (xr_w g ad ws ++ [(q, xr_c g ad c)])) (hS : va_S (xg_A g) s.heap H1 locs) :
    W p l e (xp_rm P M) s m args below meth cd H1 locs (ce + 1) (sl + n) (xr_QQ P g M ad0 n0 r below args s) (F0 m pc' ls (.ref q :: rs.map (xr_v ad))) := by
  obtain ⟨o1, o2, o3⟩ := xr_okn_of hok
  have hag : ∀ k, k < ws.length + 2 → xr_up ad (ws.length + 2) q k = ad k := xr_up_old
  have e1 : xr_w g (xr_up ad (ws.length + 2) q) (ws ++ [c]) = xr_w g ad ws ++ [(q, xr_c g ad c)] := by
    rw [xr_w_add hag o3, xr_up_new, hc]
  have e2 : (.ref (ws.length + 2) :: rs).map (xr_v (xr_up ad (ws.length + 2) q)) = .ref q :: rs.map (xr_v ad) := by
    rw [List.map_cons, xr_vs_eq hag o2]
    show Value.ref (xr_up ad (ws.length + 2) q (ws.length + 2)) :: _ = _
    rw [xr_up_new]
  have h9 := h p e s m args below meth cd H1 locs ls (xr_up ad (ws.length + 2) q) ad0 n0 cx
    ⟨h1, h2, fun z => by rw [List.length_append]; exact Nat.le_trans (lo.2.2.1 z) (Nat.le_add_right _ _), fun k hk => (hag k (by have := lo.2.2.1 hal; omega)).trans (lo.2.2.2.1 k hk), fun z => by rw [hal] at z; cases z⟩
    (by rw [xr_l_eq hag o1]; exact hl) ⟨by rw [e1]; exact hP, by rw [e1]; exact hD, (hag 0 (by omega)).trans hA.2.2.1, (hag 1 (by omega)).trans hA.2.2.2⟩ hS
  rw [e2] at h9
  exact h9
theorem xj_new {k a : Nat} (hd : decode (xp_cd P M) pc = .ok (.new k, 3)) (hf : xr_nw P M k a) (hal : (xp_I P M).2.2.1 = true) (h1 : ce + 1 ≤ (xp_I P M).1) (h2 : sl + ((xp_t P).1 a).length ≤ (xp_I P M).2.1) (hok : xr_okn lv st ws = true)
    (h : xr_J P l g M (ce + 1) (sl + ((xp_t P).1 a).length) (pc + 3) lv (.ref (ws.length + 2) :: st) (ws ++ [.inr (a, (xp_t P).1 a)]) r) : xr_J P l g M ce sl pc lv st ws r := by
  intro p e s m args below meth c H locs ls ad ad0 n0 cx lo hl hA hS
  obtain ⟨C, T, N, ty, hc, hin, hty, hN, hcn, hfs, hcl, hins, hini⟩ := hf
  refine va_new (xc_ex cx) (xc_cd cx) (xc_ts cx) hin ty hty (xc_ow cx) (xc_ts cx _ hcl) (xc_ts cx _ hins) (xc_ts cx _ hini) (xc_fx cx).1 hA.1 hA.2.1 hS (fun q hq => Nat.le_trans (xc_fx cx).2.2.1.2 hq) hc (fs := ((xp_t P).1 a).map (xr_v ad)) (fun j hj => by rw [hcn ad]; exact hfs j hj) (by show ce + 1 ≤ (xp_I P M).1; exact h1) (by show sl + N ≤ (xp_I P M).2.1; rw [← hN]; exact h2) hd (fun q H1 g1 g2 g3 => ?_)
  rw [← hN]
  exact xr_grow (c := .inr (a, (xp_t P).1 a)) hal h1 h2 hok (fun ad' => by show Sum.inr (a, ((xp_t P).1 a).map (xr_v ad')) = Sum.inr (a, ((xp_t P).1 a).map (xr_v ad)); rw [hcn ad, hcn ad']) h cx lo hl hA g1 g2 g3
theorem xr_RA_inj {s : State} {c1 c2 : ClassId} {t : Nat} (ht : t < 4) (h1 : va_RA s c1 (xt_at t)) (h2 : va_RA s c2 (xt_at t)) : c1 = c2 := by
  match t, ht with
  | 0, _ => exact Option.some.inj (Eq.trans (Eq.symm h1) h2)
  | 1, _ => exact Option.some.inj (Eq.trans (Eq.symm h1) h2)
  | 2, _ => exact Option.some.inj (Eq.trans (Eq.symm h1) h2)
  | 3, _ => exact Option.some.inj (Eq.trans (Eq.symm h1) h2)
theorem xr_z_cell {t n : Nat} (ht : t < 4) (cA : ClassId) : vp_cell cA (xr_z t n) = arrV cA n (fun _ => defaultValue (xt_at t)) := by
  match t, ht with
  | 0, _ => rfl
  | 1, _ => rfl
  | 2, _ => rfl
  | 3, _ => rfl
theorem xr_z_bytes {t n : Nat} (ht : t < 4) (hn : n ≤ 65536) : n * componentBytes (xt_at t) ≤ 536870912 := by
  have h8 : componentBytes (xt_at t) ≤ 8 := by
    match t, ht with
    | 0, _ => decide
    | 1, _ => decide
    | 2, _ => decide
    | 3, _ => decide
  exact Nat.le_trans (Nat.mul_le_mul hn h8) (by decide)
theorem xj_newarray {t : ArrayType} {a : Nat} {n : Int32} (hd : decode (xp_cd P M) pc = .ok (.newarray t, 2)) (ha : a < 4) (ht : newarray.typeOf t = xt_at a) (hc : Cond.arrayClass (xt_at a) ∈ xp_T P) (hal : (xp_I P M).2.2.1 = true) (h1 : ce + 1 ≤ (xp_I P M).1) (h2 : sl + n.toNatClampNeg ≤ (xp_I P M).2.1) (hn : ¬ n < 0 ∧ n.toNatClampNeg ≤ 65536) (hok : xr_okn lv rs ws = true)
    (h : xr_J P l g M (ce + 1) (sl + n.toNatClampNeg) (pc + 2) lv (.ref (ws.length + 2) :: rs) (ws ++ [.inl (a, xr_z a n.toNatClampNeg)]) r) : xr_J P l g M ce sl pc lv (.int n :: rs) ws r := by
  intro p e s m args below meth c H locs ls ad ad0 n0 cx lo hl hA hS
  refine va_newa (xc_ex cx) (xc_cd cx) (by rw [ht]; exact xc_ts cx _ hc) ht (xc_fx cx).1 hA.1 hA.2.1 hS (fun q hq => Nat.le_trans (xc_fx cx).2.2.1.2 hq) (xr_z_cell ha) hn.1 rfl (xr_z_bytes ha hn.2) (by show ce + 1 ≤ (xp_I P M).1; exact h1) (by show sl + n.toNatClampNeg ≤ (xp_I P M).2.1; exact h2) hd (fun q cA H1 g0 g1 g2 g3 => ?_)
  have e1 : cA = xg_c g a := xr_RA_inj ha (g0.2 4 (cA, xt_at a) rfl).2 ((xc_fx cx).1.2 a _ (xr_tys_at g ha)).2
  subst e1
  exact xr_grow (c := .inl (a, xr_z a n.toNatClampNeg)) hal h1 h2 hok (fun ad' => rfl) h cx lo hl hA g1 g2 g3
theorem xr_At_kept {ad : Nat → Nat} {H H1 : Heap} (hA : xr_At P g ad ws H) (h : ∀ q : Nat, q < H.size → H1[q]? = H[q]?) : xr_At P g ad ws H1 :=
  ⟨hA.1.kept (fun k q hk => h q.1 (hA.1 k q hk).lt), hA.2⟩
end
end
