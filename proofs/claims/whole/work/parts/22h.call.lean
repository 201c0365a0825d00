section
variable {P : xr_P} {l : Launch} {g : xr_G}
theorem xr_sl_len : ∀ vs : List Value, (lg_sl vs).length = (vs.map Value.category).sum
  | [] => rfl
  | v :: r => by
    have h : lg_sl (v :: r) = (if v.category = 2 then [.val v, .second] else [.val v]) ++ lg_sl r := List.flatMap_cons
    rw [h, List.length_append, xr_sl_len r, List.map_cons, List.sum_cons]
    cases v <;> rfl
theorem xr_args_l (ad : Nat → Nat) : ∀ (vs : List Value) (i : Nat), lv_args i (vs.map (xr_v ad)) = xr_l ad (lv_args i vs)
  | [], _ => rfl
  | v :: r, i => by
    show (i, xr_v ad v) :: lv_args (if (xr_v ad v).category = 2 then i + 2 else i + 1) (r.map (xr_v ad)) = (i, xr_v ad v) :: xr_l ad (lv_args (if v.category = 2 then i + 2 else i + 1) r)
    rw [xr_v_cat, xr_args_l ad r]
theorem xp_w_code {a : Nat} (h : xp_hh P a = []) : xp_w P a = Cond.code (xp_y P a) (xp_cd P a) (xp_ml P a) (xp_rt P a) :: xp_T P := by
  unfold xp_w xp_hd
  rw [h]
theorem xp_w_with {a : Nat} (h : xp_hh P a ≠ []) : xp_w P a = Cond.codeWith (xp_y P a) (xp_cd P a) (xp_ml P a) (xp_rt P a) (xp_hh P a) :: xp_T P := by
  unfold xp_w xp_hd
  cases hh : xp_hh P a with
  | nil => exact absurd hh h
  | cons y t => rfl
/-- a method's contract out of its run -/
theorem xr_body {k : xr_K → Option xr_R} (hk : xr_Go P l g k) (hst : l.stackTraces = false) {M : Nat} (hM : M < xp_N P) {As : List Value} {ws : xr_W} {r : xr_R} (h : k (M, (xp_B P M).1, (xp_B P M).2, 0, 0, 0, lv_args 0 As, [], ws) = some r) (haw : (As.map Value.category).sum ≤ xp_ml P M) (ad : Nat → Nat)
    {p : Program} {e : Env} {s : State} {m : MethodId} {args : Array Value} {below : List Frame} {meth : Method} {c : Code} {s₁ : State} (B : BodyLoose p l (xp_y P M) (headSpec (xp_w P M) (xp_rm P M)) (xp_cd P M) (xp_ml P M) (xp_rt P M) e s m args below meth c s₁) (hml : c.maxLocals = xp_ml P M) (htb : c.exceptionTable.toList = tableOf (xp_hh P M)) (hP : xr_Pc P g ad ws As args s) :
    W p l e (xp_rm P M) s m args below meth c s.heap [] 0 0 (xr_QQ P g M ad ws.length r below args s) (entryFrame m args (xp_ml P M)) := by
  obtain ⟨rfl, hfx, hAt⟩ := hP
  have cx : xr_Cx P l g M p s m (As.map (xr_v ad)).toArray meth c := ⟨hM, hst, B.exec, B.bytes, hml, findClass_of_methodNamed B.named, fun w hw => atoms_spec (ws := xp_w P M) B.pre w (List.mem_cons_of_mem _ hw), B.returns, B.notSynchronized, (name_of_methodNamed B.named B.method).1, htb, hfx⟩
  have hlen : (lg_sl (As.map (xr_v ad))).length ≤ xp_ml P M := by
    rw [xr_sl_len, xr_v_cats]
    exact haw
  have hl := lv_entry (As.map (xr_v ad)) (n := xp_ml P M) hlen
  rw [xr_args_l] at hl
  rw [lg_entry_eq]
  exact hk M 0 0 0 _ [] ws r h p e s m _ below meth c s.heap [] _ ad ad ws.length cx ⟨Nat.zero_le _, Nat.zero_le _, fun _ => Nat.le_refl _, fun _ _ => rfl, fun _ => rfl⟩ hl hAt va_S.rf
theorem xr_met {k : xr_K → Option xr_R} (hOK : xr_OK P) (hk : xr_Go P l g k) (hst : l.stackTraces = false) {M : Nat} (hM : M < xp_N P) {As : List Value} {ws w : xr_W} {v : Option Value} (h : k (M, (xp_B P M).1, (xp_B P M).2, 0, 0, 0, lv_args 0 As, [], ws) = some (.inl v, w)) (haw : (As.map Value.category).sum ≤ (xp_I P M).2.2.2.2.2.2) (ad : Nat → Nat) :
    Met l (xp_y P M) (xp_w P M) (xp_rm P M) (xr_Pc P g ad ws As) (xr_Qc P g ad ws.length (xp_I P M).2.2.1 (.inl v, w)) (xp_I P M).1 (xp_I P M).2.1 (xg_A g) := by
  obtain ⟨-, hpl, -, haw2, -⟩ := hOK.2 M hM
  rw [haw2] at haw
  by_cases hh : xp_hh P M = []
  · refine Met.ofW hpl (xp_w_code hh) ?_
    intro p e s m args below meth c s₁ B hml hP
    refine xr_body hk hst hM h haw ad B hml ?_ hP
    obtain ⟨mt, cc, h1, h2, -, -, -, -, h7, -⟩ := Cond.code_spec B.named (atoms_spec (ws := xp_w P M) B.pre _ (by rw [xp_w_code hh]; exact List.mem_cons_self))
    cases Option.some.inj (h1.symm.trans B.method)
    cases Option.some.inj (h2.symm.trans (Stand.of_body B).code)
    rw [hh, Array.isEmpty_iff.mp h7]
    rfl
  · refine va_MetW hpl (xp_w_with hh) ?_
    intro p e s m args below meth c s₁ B hml hP
    refine xr_body hk hst hM h haw ad B hml ?_ hP
    obtain ⟨m9, mt, cc, hn9, h1, h2, -, -, h6, -⟩ := Cond.codeWith_spec (atoms_spec (ws := xp_w P M) B.pre _ (by rw [xp_w_with hh]; exact List.mem_cons_self))
    cases Option.some.inj (hn9.symm.trans B.named)
    cases Option.some.inj (h1.symm.trans B.method)
    cases Option.some.inj (h2.symm.trans (Stand.of_body B).code)
    rw [← h6, table_eq]
theorem xr_metT {k : xr_K → Option xr_R} (hOK : xr_OK P) (hk : xr_Go P l g k) (hst : l.stackTraces = false) {M : Nat} (hM : M < xp_N P) (hh : xp_hh P M = []) {As : List Value} {ws w : xr_W} {E : String} (h : k (M, (xp_B P M).1, (xp_B P M).2, 0, 0, 0, lv_args 0 As, [], ws) = some (.inr E, w)) (haw : (As.map Value.category).sum ≤ (xp_I P M).2.2.2.2.2.2) (ad : Nat → Nat) :
    xt_Met P l g (xp_y P M) (xp_w P M) (xp_rm P M) (xr_Pc P g ad ws As) E ad w (xp_I P M).1 (xp_I P M).2.1 := by
  obtain ⟨-, hpl, -, haw2, -⟩ := hOK.2 M hM
  rw [haw2] at haw
  refine MetFree.of_bodyS (code := xp_cd P M) (maxLocals := xp_ml P M) (ret := xp_rt P M) hpl ?_ ?_
  · intro args s m hp hn
    obtain ⟨meth, c, h1, h2, h3, h4, h5, h6, -, -⟩ := Cond.code_spec hn (atoms_spec (ws := xp_w P M) hp _ (by rw [xp_w_code hh]; exact List.mem_cons_self))
    exact ⟨meth, c, h1, h2, h3, h4, h5, h6⟩
  · intro p e s m args below meth c s₁ B hml hP _
    have hh0 : s₁.heap = s.heap := by rw [B.state]; rfl
    have htb : c.exceptionTable.toList = tableOf (xp_hh P M) := by
      obtain ⟨mt, cc, h1, h2, -, -, -, -, h7, -⟩ := Cond.code_spec B.named (atoms_spec (ws := xp_w P M) B.pre _ (by rw [xp_w_code hh]; exact List.mem_cons_self))
      cases Option.some.inj (h1.symm.trans B.method)
      cases Option.some.inj (h2.symm.trans (Stand.of_body B).code)
      rw [hh, Array.isEmpty_iff.mp h7]
      rfl
    obtain ⟨t, a1, q, b1, b2, b3⟩ := xr_body hk hst hM h haw ad B hml htb hP s₁ hh0 (Stand.of_body B)
    exact ⟨t, .threw q, a1, b1, b2, q, rfl, b3⟩
theorem xr_good (hT : ∀ w ∈ xp_T P, (w.onTables && w.keeps) = true ∨ ∃ ty, w = .arrayClass ty) {ws : List Cond} (h : ∀ w ∈ ws, w ∈ xp_T P) : GoodIn (xp_T P) ws := fun w hw => ⟨h w hw, hT w (h w hw)⟩
theorem xp_w_in {a : Nat} (h : xp_hd P a ∈ xp_T P) : ∀ w ∈ xp_w P a, w ∈ xp_T P := by
  intro w hw
  rcases List.mem_cons.mp hw with rfl | hw
  · exact h
  · exact hw
theorem xr_stk {st : List Value} (b : Nat) (ad : Nat → Nat) : st.map (xr_v ad) = (((st.take b).reverse).map (xr_v ad)).reverse ++ (st.drop b).map (xr_v ad) := by
  rw [← List.map_reverse, List.reverse_reverse, ← List.map_append, List.take_append_drop]
theorem xr_rc_of {as : List Value} {ws : xr_W} {ci : Nat} (h : xr_rc as ws ci = true) : ∃ (j : Nat) (r : List Value) (fs : List Value), as = .ref (j + 2) :: r ∧ ws[j]? = some (.inr (ci, fs)) := by
  unfold xr_rc at h
  split at h
  · rename_i j r
    split at h
    · rename_i o ho
      have e1 : o.1 = ci := of_decide_eq_true h
      exact ⟨j, r, o.2, rfl, by rw [ho, ← e1]⟩
    · cases h
  · cases h
theorem xr_thrown {k : xr_K → Option xr_R} (hOK : xr_OK P) (hk : xr_Go P l g k) {M ce sl pc n0 : Nat} {lv : List (Nat × Value)} {rest : List Value} {w : xr_W} {E : String} {r : xr_R} (hal : (xp_I P M).2.2.1 = false)
    (h : (match (xp_I P M).2.2.2.2.2.1 with
    | [] => some (.inr E, w)
    | h :: t => match (h :: t).find? (fun q => decide (q.1 ≤ pc) && decide (pc < q.2.1) && (q.2.2.2.2.2 == E)) with
      | none => none
      | some q => k (M, (xp_B P M).1, (xp_B P M).2, ce, sl, q.2.2.1 + q.2.2.2.1, lv.filter (fun z => !(z.1 == q.2.2.2.2.1) && !(z.1 + 1 == q.2.2.2.2.1 && z.2.category == 2)), [], w)) = some r)
    {p : Program} {e : Env} {s : State} {m : MethodId} {args : Array Value} {below : List Frame} {meth : Method} {c : Code} {H1 : Heap} {locs1 : List Loc} {ls : Array Slot} {ad : Nat → Nat} {ce' : Cell} {q : Addr} (cx : xr_Cx P l g M p s m args meth c) (h1 : ce ≤ (xp_I P M).1) (h2 : sl ≤ (xp_I P M).2.1) (hl : lv_has ls (xp_ml P M) (xr_l ad lv)) (hA : xr_At P g ad w H1) (hS : va_S (xg_A g) s.heap H1 locs1) (hce : H1[q]? = some ce') (hcv : ce'.vm = .none) (hcl : s.vm.findClass E = some ce'.cls) :
    xt_W p l e (xp_rm P M) s m args below meth c H1 locs1 ce sl (xr_QQ P g M ad n0 r below args s) (F0 m pc ls rest) q := by
  obtain ⟨-, -, -, -, hlen, hhk, hnc⟩ := hOK.2 M (xc_N cx)
  cases hh : (xp_I P M).2.2.2.2.2.1 with
  | nil =>
    rw [hh] at h
    cases h
    have h0 : xp_hh P M = [] := by
      rw [hh] at hlen
      exact List.length_eq_zero_iff.mp hlen.symm
    exact xt_out cx h0 h1 h2 hA hS hce hcv hcl
  | cons y t =>
    rw [hh] at h
    replace h : (match (y :: t).find? (fun q => decide (q.1 ≤ pc) && decide (pc < q.2.1) && (q.2.2.2.2.2 == E)) with
      | none => none
      | some q => k (M, (xp_B P M).1, (xp_B P M).2, ce, sl, q.2.2.1 + q.2.2.2.1, lv.filter (fun z => !(z.1 == q.2.2.2.2.1) && !(z.1 + 1 == q.2.2.2.2.1 && z.2.category == 2)), [], w)) = some r := h
    cases hf : (y :: t).find? (fun q => decide (q.1 ≤ pc) && decide (pc < q.2.1) && (q.2.2.2.2.2 == E)) with
    | none => rw [hf] at h; cases h
    | some z =>
      rw [hf] at h
      replace h : k (M, (xp_B P M).1, (xp_B P M).2, ce, sl, z.2.2.1 + z.2.2.2.1, lv.filter (fun x => !(x.1 == z.2.2.2.2.1) && !(x.1 + 1 == z.2.2.2.2.1 && x.2.category == 2)), [], w) = some r := h
      obtain ⟨hz, xs, ys, hsp, hno⟩ := List.find?_eq_some_iff_append.mp hf
      rw [← hh] at hsp
      rw [Bool.and_eq_true, Bool.and_eq_true, beq_iff_eq] at hz
      obtain ⟨⟨hz1, hz2⟩, hz3⟩ := hz
      have hj : (xp_I P M).2.2.2.2.2.1[xs.length]? = some z := by rw [hsp, List.getElem?_append_right (Nat.le_refl _), Nat.sub_self]; rfl
      have hjl : xs.length < (xp_hh P M).length := by rw [← hlen, hsp, List.length_append]; simp
      obtain ⟨hx, hhx⟩ : ∃ hx, (xp_hh P M)[xs.length]? = some hx := ⟨_, List.getElem?_eq_getElem hjl⟩
      obtain ⟨k1, k2, k3, k4, k5, k6, k7, k8⟩ := hhk _ _ _ hj hhx
      have hsplit : c.exceptionTable.toList = tableOf ((xp_hh P M).take xs.length) ++ (⟨hx.1, hx.2.1, hx.2.2.1, hx.2.2.2⟩ : ExceptionTableEntry) :: tableOf ((xp_hh P M).drop (xs.length + 1)) := by
        rw [xc_tb cx]
        have e1 : xp_hh P M = (xp_hh P M).take xs.length ++ hx :: (xp_hh P M).drop (xs.length + 1) := by
          have e2 : hx = (xp_hh P M)[xs.length] := (Option.some.inj ((List.getElem?_eq_getElem hjl).symm.trans hhx)).symm
          rw [e2, ← List.drop_eq_getElem_cons hjl, List.take_append_drop]
        calc tableOf (xp_hh P M) = tableOf ((xp_hh P M).take xs.length ++ hx :: (xp_hh P M).drop (xs.length + 1)) := by rw [← e1]
          _ = _ := by unfold tableOf; rw [List.map_append, List.map_cons]
      refine xt_catch (xc_ow cx) _ _ _ hsplit ?_ ?_ k4 (xc_ts cx _ k5) (E := E) (by rw [← hz3]; exact xc_zs cx _ k6) hce hcv hcl ?_
      · intro x hx2
        obtain ⟨h9, hm9, rfl⟩ := List.mem_map.mp hx2
        obtain ⟨i, hi⟩ := List.mem_iff_getElem?.mp hm9
        have hil : i < xs.length := by
          have := (List.getElem?_eq_some_iff.mp hi).1
          rw [List.length_take] at this
          omega
        rw [List.getElem?_take_of_lt hil] at hi
        have hqi : (xp_I P M).2.2.2.2.2.1[i]? = some xs[i] := by rw [hsp, List.getElem?_append_left hil, List.getElem?_eq_getElem hil]
        obtain ⟨j1, j2, j3, j4, j5, -⟩ := hhk i _ _ hqi hi
        have hno9 := hno xs[i] (List.getElem_mem hil)
        by_cases hE : xs[i].2.2.2.2.2 = E
        · left
          rw [hE, beq_self_eq_true, Bool.and_true] at hno9
          show (decide (h9.1 ≤ pc) && decide (pc < h9.2.1)) = false
          rw [j1, j2]
          simpa only [Bool.not_eq_true'] using hno9
        · right
          refine ⟨j4, _, xc_ts cx _ j5, ?_⟩
          rw [← hz3]
          exact (xc_fx cx).2.2.2.2.2.1 _ (hnc i xs.length _ _ hil hqi hj (by rw [hz3]; exact hE))
      · show (decide (hx.1 ≤ pc) && decide (pc < hx.2.1)) = true
        rw [k1, k2, hz1, hz2]
        rfl
      · have hJ := hk _ _ _ _ _ _ _ _ h
        have hlo : xr_Lo P M ce sl w ad ad n0 := ⟨h1, h2, (fun z9 => by rw [hal] at z9; cases z9), fun _ _ => rfl, fun _ => rfl⟩
        have kk : ∀ (ls' : Array Slot), lv_has ls' (xp_ml P M) ((z.2.2.2.2.1, Value.ref q) :: (xr_l ad lv).filter (fun x => !(x.1 == z.2.2.2.2.1) && !(x.1 + 1 == z.2.2.2.2.1 && x.2.category == 2))) → W p l e (xp_rm P M) s m args below meth c H1 locs1 ce sl (xr_QQ P g M ad n0 r below args s) (F0 m (z.2.2.1 + z.2.2.2.1) ls' []) := by
          intro ls' hl'
          refine hJ p e s m args below meth c H1 locs1 ls' ad ad n0 cx hlo (xr_has_of hl' ?_) hA hS
          rw [xr_l_filter ad lv (fun a b => !(a == z.2.2.2.2.1) && !(a + 1 == z.2.2.2.2.1 && b == 2))]
          exact fun x hx9 => List.mem_cons_of_mem _ hx9
        show W p l e (xp_rm P M) s m args below meth c H1 locs1 ce sl _ (F0 m hx.2.2.1 ls [.ref q])
        rw [k3]
        rcases k8 with ⟨n1, kf, hkf, hdk⟩ | ⟨n2, hdk⟩
        · rw [n1] at kk
          exact lv_astore_n (xc_ex cx) (xc_cd cx) hdk hkf hl k7 rfl kk
        · rw [n2] at kk
          exact lv_astore (xc_ex cx) (xc_cd cx) hdk hl k7 rfl kk
theorem xt_aft {p : Program} {e : Env} {R : Room} {s : State} {m : MethodId} {args : Array Value} {below : List Frame} {meth : Method} {c : Code} {H : Heap} {locs : List Loc} {ce sl mc ms pc : Nat} {ls : Array Slot} {st0 rest : List Value} {Q : State → Prop} {ad : Nat → Nat} {E : String} {w : xr_W}
    (kx : ∀ {H1 : Heap} {locs1 : List Loc} {ce' : Cell} {q : Addr}, xr_At P g ad w H1 → va_S (xg_A g) s.heap H1 locs1 → H1[q]? = some ce' → ce'.vm = .none → s.vm.findClass E = some ce'.cls → xt_W p l e R s m args below meth c H1 locs1 (ce + mc) (sl + ms) Q (F0 m pc ls rest) q)
    (hr : xt_Run P g p l e R s m args below meth c H locs ce sl mc ms (F0 m pc ls st0) rest E ad w) : W p l e R s m args below meth c H locs ce sl Q (F0 m pc ls st0) := by
  intro T hT X
  obtain ⟨q, T', L, x, X', hL, hA, hS, h1, h2, h3, st⟩ := hr T hT X
  obtain ⟨t, a1, b1⟩ := kx hA hS h1 h2 h3 T' rfl X'
  exact ⟨t, st.trans a1, b1⟩
/-- a static call of a method with a table, that returns -/
theorem xr_runSW {p : Program} {e : Env} {R : Room} {s : State} {m : MethodId} {args : Array Value} {below : List Frame} {meth : Method} {c : Code} {H : Heap} {locs : List Loc} {cells slots : Nat} {y : MethodName} {bytes : ByteArray} {maxL mc ms n index : Nat} {ret : Option FieldType} {hh : List (Nat × Nat × Nat × Nat)} {ws : List Cond} {rm : Room} {Pc : Array Value → State → Prop} {Qc : Array Value → State → Outcome → State → Prop} {free : Addr → Prop} {own : String} {As rest : List Value} {f : JFrame}
    (hexec : p.tables.exec = Jvm.exec) (hown : s.vm.findClass own = some m.cls) (hM : Met l y ws rm Pc Qc mc ms free) (hrc : rm.cells = mc) (hrs : rm.slots = ms) (hfr : rm.frames + 1 ≤ R.frames) (hlo : 8 + (maxL + 11) + rm.locals ≤ R.locals) (hws : ∀ w ∈ ws, ∀ (a' : Array Value) (U : State), s.WarmedH U.vm → w.before a' U = true) (hcw : Cond.codeWith y bytes maxL ret hh ∈ ws) (hini : Cond.initialized y.cls ∈ ws) (hst : (Cond.static y).before args s = true) (hl : (Cond.methodLink own index y).before args s = true)
    (hy : y.cls ≠ "java/lang/invoke/MethodHandle" ∧ y.cls ≠ "java/lang/invoke/VarHandle") (hlen : (parseMethodDescriptor y.desc).map (fun d => d.parameters.length) = some n) (hp : PreS s H Pc As) (hg : f.method = m) (hn : As.length = n) (hsize : f.locals.size = c.maxLocals) (hstack : f.stack = As.reverse ++ rest) (hW : 2 * f.monitorRoom + (rest.map fun v => v.category).sum ≤ 8) (hdg : decode c.code f.pc = .ok (.invokestatic index, 3)) (hf : cells + mc ≤ R.cells ∧ slots + ms ≤ R.slots) :
    va_Run p l e R s m args below meth c H locs cells slots mc ms f rest (Qc As.toArray) free := by
  have hK : Back l R p e below s args y 3 8 (PreOf R mc ms Pc) (PostOf Qc mc ms free) := va_backW (hh := hh) (bytes := bytes) (maxL := maxL) (ret := ret) hM hp.1 hrc hrs hfr hlo hws hcw (fun a' U hW => hws _ hini a' U hW)
  intro T hT X
  obtain ⟨mk, mM, cM, hnm, hmM, -, -, -, -, -, -, hsig⟩ := Cond.codeWith_spec (hws _ hcw args s (State.WarmedH.refl s))
  obtain ⟨kP, hkP, -⟩ := className_of_methodNamed hnm
  obtain ⟨vm₁, X₁, hstep⟩ := X.invokestatic hexec hown hl hnm hmM (Cond.static_spec hnm hmM hst) hkP (Cond.initialized_spec (findClass_of_methodNamed hnm) hkP (hws _ hini args s (State.WarmedH.refl s))) hy (g := f) hg (argsL := As) (rest := rest) (by rw [hsig] at hlen; exact hn.trans (Option.some.inj hlen).symm) hstack hdg
  obtain ⟨v, ⟨U', l2, c2, s2⟩, X', ⟨g', mk', t, L, e1, e2, hq, h1, hL, h2, h3⟩, st⟩ := hK m meth c ⟨T.setVm vm₁, locs, cells, slots⟩ { f with stack := rest } (.invokestatic index) mk As.toArray X₁ hg hsize hdg hW (X₁.named hnm) ⟨hf.1, hf.2, hp.2 (T.setVm vm₁) hT X₁.warmed⟩
  dsimp only [Pt.U, Pt.locs, Pt.cells, Pt.slots] at X' e1 e2 h1 h2 h3 st
  subst h1; subst h2; subst h3
  exact ⟨v, (T.setVm vm₁).calling g' mk' As.toArray, t, U', L, hT, X', hL, e1, e2, hq, fun target h => hstep _ fun acts => by rw [doInvoke_state]; exact st.trans h⟩
/-- the run of a call of our own -/
theorem xj_call {k : xr_K → Option xr_R} (hOK : xr_OK P) (hk : xr_Go P l g k) {M ce sl pc u kx a b n : Nat} {lv : List (Nat × Value)} {st : List Value} {ws : xr_W} {r : xr_R} {ins : Instr} (hd : decode (xp_cd P M) pc = .ok (ins, 3)) (hu : (u = 0 ∧ ins = .invokevirtual kx) ∨ (u = 1 ∧ ins = .invokespecial kx) ∨ (u = 2 ∧ ins = .invokestatic kx)) (hs : xr_cs P M u kx a b (.retAddr n))
    (h : xr_call k M (xp_B P M).1 (xp_B P M).2 ce sl pc lv st ws a b (xr_vir n) (xr_tk n) (xp_B P a) = some r) : xr_J P l g M ce sl pc lv st ws r := by
  intro p e s m args below meth c H locs ls ad ad0 n0 cx lo hl hA hS
  unfold xr_call at h
  split at h
  case isFalse => cases h
  rename_i hc
  obtain ⟨⟨hb, hcat, haw⟩, hce, hsl⟩ := hc
  split at h
  case isFalse => cases h
  rename_i hal
  split at h
  case isFalse => cases h
  rename_i hrc
  cases hr' : k (a, (xp_B P a).1, (xp_B P a).2, 0, 0, 0, lv_args 0 (st.take b).reverse, [], ws) with
  | none => rw [hr'] at h; cases h
  | some r' =>
  rw [hr'] at h
  rcases hs with ⟨n', hn', haN, ⟨hrf1, hrf2⟩, hini, hs⟩ | ⟨-, hs⟩
  case inr => rcases hs with ⟨-, z, -⟩ | ⟨-, z, -⟩ | ⟨-, z, -⟩ | ⟨-, z, -⟩ <;> cases z
  cases hn'
  have haw' : (((st.take b).reverse).map Value.category).sum ≤ (xp_I P a).2.2.2.2.2.2 := by rw [List.map_reverse, List.sum_reverse]; exact haw
  obtain ⟨-, -, hhd, -, -⟩ := hOK.2 a haN
  have hin := xp_w_in hhd
  have hrest : 2 * (F0 m pc ls (st.map (xr_v ad))).monitorRoom + (((st.drop b).map (xr_v ad)).map fun v => v.category).sum ≤ 8 := lv_room (by
    rw [show (((st.drop b).map (xr_v ad)).map fun v => v.category) = ((st.drop b).map (xr_v ad)).map Value.category from rfl, xr_v_cats]; exact hcat)
  have hfix : CallFix p m c (xp_cd P M) (xp_ml P M) s args (xp_T P) (xp_own P M) := ⟨xc_ex cx, xc_cd cx, xc_ml cx, xc_ow cx, xc_ts cx⟩
  have hpre : ∀ U : State, U.heap = H → s.WarmedH U.vm → xr_Pc P g ad ws (st.take b).reverse (((st.take b).reverse).map (xr_v ad)).toArray U := xr_pre (xc_fx cx) hS hA
  have hbl : FrameBlind (xr_Pc P g ad ws (st.take b).reverse) := xr_blind ad ws (st.take b).reverse
  have hlen : ((st.take b).reverse).length = b := by rw [List.length_reverse, List.length_take]; omega
  have hroom : ce + (xp_I P a).1 ≤ (xp_rm P M).cells ∧ sl + (xp_I P a).2.1 ≤ (xp_rm P M).slots := ⟨hce, hsl⟩
  have hini' : Cond.initialized (xp_y P a).cls ∈ xp_w P a := List.mem_cons_of_mem _ hini
  obtain ⟨r1, w⟩ := r'
  cases r1 with
  | inr E =>
    obtain ⟨⟨hI, hth⟩, h⟩ := xn_if (show (if (xp_I P M).2.2.1 = false ∧ xr_tk n = true then (match (xp_I P M).2.2.2.2.2.1 with
      | [] => some (.inr E, w)
      | h :: t => match (h :: t).find? (fun q => decide (q.1 ≤ pc) && decide (pc < q.2.1) && (q.2.2.2.2.2 == E)) with
        | none => none
        | some q => k (M, (xp_B P M).1, (xp_B P M).2, ce + (xp_I P a).1, sl + (xp_I P a).2.1, q.2.2.1 + q.2.2.2.1, lv.filter (fun z => !(z.1 == q.2.2.2.2.1) && !(z.1 + 1 == q.2.2.2.2.1 && z.2.category == 2)), [], w)) else none) = some r from h)
    have had : ad = ad0 := lo.2.2.2.2 hI
    subst had
    refine xt_aft (rest := (st.drop b).map (xr_v ad)) (xr_thrown hOK hk hI h cx hce hsl hl) ?_
    rcases hs with ⟨hu0, rfl, hh, ⟨b', rfl, hnd1, hnd2, hnd3⟩, ⟨T, N, hcl⟩, h1, h2, h3⟩ | ⟨hu0, rfl, -⟩ | ⟨hu0, rfl, hh, ⟨hnd1, hnd2, hnd3⟩, h1, h2⟩ | ⟨hu0, rfl, -⟩ | ⟨hu0, rfl, -⟩ | ⟨hu0, rfl, -⟩ | ⟨hu0, rfl, -⟩
    · have hdi : decode (xp_cd P M) pc = .ok (.invokevirtual kx, 3) := by
        rcases hu with ⟨-, rfl⟩ | ⟨z, -⟩ | ⟨z, -⟩
        · exact hd
        · omega
        · omega
      rcases hrc with z | hrc
      · cases z
      obtain ⟨j, As, fs, hj1, hj2⟩ := xr_rc_of hrc
      have hM := xr_metT hOK hk (xc_st cx) haN hh hr' haw' ad
      rw [hj1] at hM hpre hlen
      have hstk : st.map (xr_v ad) = (As.map (xr_v ad)).reverse ++ .ref (ad (j + 2)) :: (st.drop (b' + 1)).map (xr_v ad) := by
        rw [xr_stk (b' + 1) ad, hj1, List.map_cons, List.reverse_cons, List.append_assoc]
        rfl
      have cw := cwV (R := xp_rm P M) (own := xp_own P M) (index := kx) (C := (xp_y P a).cls) (y := xp_y P a) (rm := xp_rm P a) b' (xc_ts cx) (xr_good hOK.1 (ws := wsV (xp_own P M) kx (xp_y P a).cls (xp_y P a) (xp_w P a)) (by
        intro w hw
        unfold wsV at hw
        rcases List.mem_append.mp hw with hw | hw
        · simp only [List.mem_cons, List.not_mem_nil, or_false] at hw
          rcases hw with rfl | rfl | rfl | rfl
          · exact h1
          · exact h2
          · exact h3
          · exact hini
        · exact hin w hw)) (xp_w_code hh) rfl rfl ⟨rfl, hnd1, hnd2, hnd3⟩ ⟨hrf1, hrf2⟩
      exact xt_runV (xc_ex cx) (xc_cd cx) ((xc_ml cx).trans hl.1.symm) (xc_ow cx) hM cw hini' (va_recv (xc_fx cx).1 hA.1 hcl (xr_w_at (g := g) (ad := ad) hj2)) hpre (by rw [List.length_map]; simpa using hlen) hstk hrest hdi hroom hS
    · cases hth
    · have hdi : decode (xp_cd P M) pc = .ok (.invokestatic kx, 3) := by
        rcases hu with ⟨z, -⟩ | ⟨z, -⟩ | ⟨-, rfl⟩
        · omega
        · omega
        · exact hd
      have hM := xr_metT hOK hk (xc_st cx) haN hh hr' haw' ad
      have cw := va_cwS (R := xp_rm P M) (own := xp_own P M) (index := kx) (y := xp_y P a) (rm := xp_rm P a) b (xc_ts cx) (xr_good hOK.1 (ws := va_wsS (xp_own P M) kx (xp_y P a) (xp_w P a)) (by
        intro w hw
        unfold va_wsS at hw
        rcases List.mem_append.mp hw with hw | hw
        · simp only [List.mem_cons, List.not_mem_nil, or_false] at hw
          rcases hw with rfl | rfl | rfl
          · exact h1
          · exact h2
          · exact hini
        · exact hin w hw)) (xp_w_code hh) rfl rfl ⟨hnd1, hnd2, hnd3⟩ ⟨hrf1, hrf2⟩
      exact xt_runS (xc_ex cx) (xc_cd cx) ((xc_ml cx).trans hl.1.symm) (xc_ow cx) hM cw hini' hpre (by rw [List.length_map]; exact hlen) (xr_stk b ad) hrest hdi hroom hS
    · cases hth
    · cases hth
    · cases hth
    · cases hth
  | inl v =>
  have hM := xr_met hOK hk (xc_st cx) haN hr' haw' ad
  refine xr_goon (as := (((st.take b).reverse).map (xr_v ad)).toArray) hk h hal hce hsl cx lo hl hS ?_
  rcases hs with ⟨hu0, rfl, hh, ⟨b', rfl, hnd1, hnd2, hnd3⟩, ⟨T, N, hcl⟩, h1, h2, h3⟩ | ⟨hu0, rfl, hh, ⟨b', rfl, hnd1, hnd2, hnd3⟩, ⟨T, N, hcl⟩, ⟨host, h1⟩, h2, h3⟩ | ⟨hu0, rfl, hh, ⟨hnd1, hnd2, hnd3⟩, h1, h2⟩ | ⟨hu0, rfl, hh, ⟨hnd1, hnd2, hnd3⟩, ⟨host, h1⟩, h2⟩ | ⟨hu0, rfl, hh, hrt, ⟨b', rfl, hnd1, hnd2, hnd3⟩, hnm, h1, h2⟩ | ⟨hu0, rfl, hh, hrt, ⟨b', rfl, hnd1, hnd2, hnd3⟩, hnm, ⟨host, h1⟩, h2⟩ | ⟨hu0, rfl, hh, ⟨hnd1, hnd2, hnd3⟩, h1, h2⟩
  · -- virtual
    have hdi : decode (xp_cd P M) pc = .ok (.invokevirtual kx, 3) := by
      rcases hu with ⟨-, rfl⟩ | ⟨z, -⟩ | ⟨z, -⟩
      · exact hd
      · omega
      · omega
    rcases hrc with z | hrc
    · cases z
    obtain ⟨j, As, fs, hj1, hj2⟩ := xr_rc_of hrc
    rw [hj1] at hM hpre hbl hlen ⊢
    have hstk : (F0 m pc ls (st.map (xr_v ad))).stack = (As.map (xr_v ad)).reverse ++ .ref (ad (j + 2)) :: (st.drop (b' + 1)).map (xr_v ad) := by
      show st.map (xr_v ad) = _
      rw [xr_stk (b' + 1) ad, hj1, List.map_cons, List.reverse_cons, List.append_assoc]
      rfl
    have cw := cwV (R := xp_rm P M) (own := xp_own P M) (index := kx) (C := (xp_y P a).cls) (y := xp_y P a) (rm := xp_rm P a) b' (xc_ts cx) (xr_good hOK.1 (ws := wsV (xp_own P M) kx (xp_y P a).cls (xp_y P a) (xp_w P a)) (by
      intro w hw
      unfold wsV at hw
      rcases List.mem_append.mp hw with hw | hw
      · simp only [List.mem_cons, List.not_mem_nil, or_false] at hw
        rcases hw with rfl | rfl | rfl | rfl
        · exact h1
        · exact h2
        · exact h3
        · exact hini
      · exact hin w hw)) (xp_w_code hh) rfl rfl ⟨rfl, hnd1, hnd2, hnd3⟩ ⟨hrf1, hrf2⟩
    exact va_runV (As := As.map (xr_v ad)) (b := ad (j + 2)) hfix hM cw ⟨hbl, va_recv (xc_fx cx).1 hA.1 hcl (xr_w_at (g := g) (ad := ad) hj2), hpre⟩ rfl (by rw [List.length_map]; simpa using hlen) hl.1 hstk hrest hdi hroom
  · -- virtual, in the nest
    have hdi : decode (xp_cd P M) pc = .ok (.invokevirtual kx, 3) := by
      rcases hu with ⟨-, rfl⟩ | ⟨z, -⟩ | ⟨z, -⟩
      · exact hd
      · omega
      · omega
    rcases hrc with z | hrc
    · cases z
    obtain ⟨j, As, fs, hj1, hj2⟩ := xr_rc_of hrc
    rw [hj1] at hM hpre hbl hlen ⊢
    have hstk : (F0 m pc ls (st.map (xr_v ad))).stack = (As.map (xr_v ad)).reverse ++ .ref (ad (j + 2)) :: (st.drop (b' + 1)).map (xr_v ad) := by
      show st.map (xr_v ad) = _
      rw [xr_stk (b' + 1) ad, hj1, List.map_cons, List.reverse_cons, List.append_assoc]
      rfl
    have cw := va_cnB (R := xp_rm P M) (own := xp_own P M) (index := kx) (host := host) (y := xp_y P a) (rm := xp_rm P a) b' (xc_ts cx) (xr_good hOK.1 hin) (xp_w_code hh) rfl rfl (va_Nw.of rfl (xc_zs cx _ h1)) (xc_ts cx _ hini) ⟨hnd1, hnd2, hnd3⟩ ⟨hrf1, hrf2⟩
    exact va_runVN (As := As.map (xr_v ad)) (b := ad (j + 2)) (C := (xp_y P a).cls) hfix hM ⟨cw, xc_ts cx _ h2, xc_ts cx _ h3⟩ ⟨hbl, va_recv (xc_fx cx).1 hA.1 hcl (xr_w_at (g := g) (ad := ad) hj2), hpre⟩ rfl (by rw [List.length_map]; simpa using hlen) hl.1 hstk hrest hdi hroom
  · -- static
    have hdi : decode (xp_cd P M) pc = .ok (.invokestatic kx, 3) := by
      rcases hu with ⟨z, -⟩ | ⟨z, -⟩ | ⟨-, rfl⟩
      · omega
      · omega
      · exact hd
    have cw := va_cwS (R := xp_rm P M) (own := xp_own P M) (index := kx) (y := xp_y P a) (rm := xp_rm P a) b (xc_ts cx) (xr_good hOK.1 (ws := va_wsS (xp_own P M) kx (xp_y P a) (xp_w P a)) (by
      intro w hw
      unfold va_wsS at hw
      rcases List.mem_append.mp hw with hw | hw
      · simp only [List.mem_cons, List.not_mem_nil, or_false] at hw
        rcases hw with rfl | rfl | rfl
        · exact h1
        · exact h2
        · exact hini
      · exact hin w hw)) (xp_w_code hh) rfl rfl ⟨hnd1, hnd2, hnd3⟩ ⟨hrf1, hrf2⟩
    exact va_runS (As := ((st.take b).reverse).map (xr_v ad)) hfix hM cw ⟨hbl, hpre⟩ rfl (by rw [List.length_map]; exact hlen) hl.1 (xr_stk b ad) hrest hdi hroom
  · -- static, in the nest
    have hdi : decode (xp_cd P M) pc = .ok (.invokestatic kx, 3) := by
      rcases hu with ⟨z, -⟩ | ⟨z, -⟩ | ⟨-, rfl⟩
      · omega
      · omega
      · exact hd
    have cw := va_cnB (R := xp_rm P M) (own := xp_own P M) (index := kx) (host := host) (y := xp_y P a) (rm := xp_rm P a) b (xc_ts cx) (xr_good hOK.1 hin) (xp_w_code hh) rfl rfl (va_Nw.of rfl (xc_zs cx _ h1)) (xc_ts cx _ hini) ⟨hnd1, hnd2, hnd3⟩ ⟨hrf1, hrf2⟩
    exact va_runSN (As := ((st.take b).reverse).map (xr_v ad)) hfix hM ⟨cw, xc_ts cx _ h2, trivial⟩ ⟨hbl, hpre⟩ rfl (by rw [List.length_map]; exact hlen) hl.1 (xr_stk b ad) hrest hdi hroom
  · -- constructor
    have hdi : decode (xp_cd P M) pc = .ok (.invokespecial kx, 3) := by
      rcases hu with ⟨z, -⟩ | ⟨-, rfl⟩ | ⟨z, -⟩
      · omega
      · exact hd
      · omega
    rcases hrc with z | hrc
    · cases z
    obtain ⟨j, As, fs, hj1, hj2⟩ := xr_rc_of hrc
    rw [hj1] at hM hpre hbl hlen ⊢
    have hstk : (F0 m pc ls (st.map (xr_v ad))).stack = (As.map (xr_v ad)).reverse ++ .ref (ad (j + 2)) :: (st.drop (b' + 1)).map (xr_v ad) := by
      show st.map (xr_v ad) = _
      rw [xr_stk (b' + 1) ad, hj1, List.map_cons, List.reverse_cons, List.append_assoc]
      rfl
    have hw9 := xp_w_code hh
    rw [hrt] at hw9
    have cw := cwI (R := xp_rm P M) (own := xp_own P M) (index := kx) (y := xp_y P a) (rm := xp_rm P a) b' (xc_ts cx) (xr_good hOK.1 hin) hw9 rfl rfl (xc_ts cx _ hini) (xc_ts cx _ h1) (xc_ts cx _ h2) hnm ⟨hnd1, hnd2, hnd3⟩ ⟨hrf1, hrf2⟩
    exact va_runI (As := As.map (xr_v ad)) (b := ad (j + 2)) hfix hM cw ⟨hbl, hpre⟩ rfl (by rw [List.length_map]; simpa using hlen) hl.1 hstk hrest hdi hroom
  · -- constructor, in the nest
    have hdi : decode (xp_cd P M) pc = .ok (.invokespecial kx, 3) := by
      rcases hu with ⟨z, -⟩ | ⟨-, rfl⟩ | ⟨z, -⟩
      · omega
      · exact hd
      · omega
    rcases hrc with z | hrc
    · cases z
    obtain ⟨j, As, fs, hj1, hj2⟩ := xr_rc_of hrc
    rw [hj1] at hM hpre hbl hlen ⊢
    have hstk : (F0 m pc ls (st.map (xr_v ad))).stack = (As.map (xr_v ad)).reverse ++ .ref (ad (j + 2)) :: (st.drop (b' + 1)).map (xr_v ad) := by
      show st.map (xr_v ad) = _
      rw [xr_stk (b' + 1) ad, hj1, List.map_cons, List.reverse_cons, List.append_assoc]
      rfl
    have hw9 := xp_w_code hh
    rw [hrt] at hw9
    have cw := va_cnB (R := xp_rm P M) (own := xp_own P M) (index := kx) (host := host) (y := xp_y P a) (rm := xp_rm P a) b' (xc_ts cx) (xr_good hOK.1 hin) hw9 rfl rfl (va_Nw.of rfl (xc_zs cx _ h1)) (xc_ts cx _ hini) ⟨hnd1, hnd2, hnd3⟩ ⟨hrf1, hrf2⟩
    exact va_runIN (As := As.map (xr_v ad)) (b := ad (j + 2)) hfix hM ⟨cw, hnm, xc_ts cx _ h2⟩ ⟨hbl, hpre⟩ rfl (by rw [List.length_map]; simpa using hlen) hl.1 hstk hrest hdi hroom
  · -- static with a table
    have hdi : decode (xp_cd P M) pc = .ok (.invokestatic kx, 3) := by
      rcases hu with ⟨z, -⟩ | ⟨z, -⟩ | ⟨-, rfl⟩
      · omega
      · omega
      · exact hd
    exact xr_runSW (hh := xp_hh P a) (bytes := xp_cd P a) (maxL := xp_ml P a) (ret := xp_rt P a) (As := ((st.take b).reverse).map (xr_v ad)) (xc_ex cx) (xc_ow cx) hM rfl rfl hrf1 hrf2 (pay_in (xc_ts cx) (xr_good hOK.1 hin)) (by rw [xp_w_with hh]; exact List.mem_cons_self) hini' (xc_ts cx _ h2) (xc_ts cx _ h1) ⟨hnd1, hnd2⟩ hnd3 ⟨hbl, hpre⟩ rfl (by rw [List.length_map]; exact hlen) (hl.1.trans (xc_ml cx).symm) (xr_stk b ad) hrest (by rw [xc_cd cx]; exact hdi) hroom
end
