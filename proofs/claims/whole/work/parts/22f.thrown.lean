/-! calls that throw: the thrown end of a callee laid over the caller's frame, then on to a handler or out -/
section
variable {P : xr_P} {l : Launch} {g : xr_G} {R : Room} {p : Program} {e : Env} {below : List Frame} {s : State} {sargs : Array Value} {m : MethodId} {meth : Method} {c : Code}
/-- a callee's contract that says: it throws E and leaves the world w -/
abbrev xt_Met (P : xr_P) (l : Launch) (g : xr_G) (y : MethodName) (ws : List Cond) (rm : Room) (Pc : Array Value → State → Prop) (E : String) (ad : Nat → Nat) (w : xr_W) (mc ms : Nat) : Prop :=
  MetFree l y (headSpec ws rm) Pc (fun _ _ _ _ _ => True) (fun _ st o t => ∃ q : Addr, o = .threw q ∧ xr_TE P g E ad w mc ms st q t)
theorem xt_pay {y : MethodName} {ws : List Cond} {rm : Room} {Pc : Array Value → State → Prop} {E : String} {ad : Nat → Nat} {w : xr_W} {mc ms maxL : Nat} {bytes : ByteArray} {ret : Option FieldType} (hM : xt_Met P l g y ws rm Pc E ad w mc ms)
    (hrc : rm.cells = mc) (hrs : rm.slots = ms) (hfr : rm.frames + 1 ≤ R.frames) (hlo : 8 + (maxL + 11) + rm.locals ≤ R.locals) (hws : ∀ x ∈ ws, ∀ (a' : Array Value) (V : State), s.WarmedH V.vm → x.before a' V = true) (hcode : Cond.code y bytes maxL ret ∈ ws) (hini : Cond.initialized y.cls ∈ ws)
    {U : State} {Ls : List Loc} {c0 s0 len : Nat} {f : JFrame} {ig : Instr} {mk : MethodId} {a : Array Value} (X : Stand p l e R s m sargs below meth c U Ls c0 s0) (hg : f.method = m) (hsz : f.locals.size = c.maxLocals) (hdg : decode c.code f.pc = .ok (ig, len)) (hw8 : 2 * f.monitorRoom + (f.stack.map fun v => v.category).sum ≤ 8) (hn : U.methodNamed? y = some mk) (hP : Pc a (U.calling f mk a)) (hc : c0 + mc ≤ R.cells) (hs : s0 + ms ≤ R.slots) :
    ∃ (q : Addr) (t U' : State) (L : List Loc), xr_TE P g E ad w mc ms (U.calling f mk a) q t ∧ U'.heap = t.heap ∧ U'.vm = t.vm ∧ (∀ z ∈ L, xg_A g z.base) ∧ Stand p l e R s m sargs below meth c U' (Ls ++ L) (c0 + mc) (s0 + ms) ∧ Steps p.tables e below (doInvoke e (U.setTop f) [] mk a).1 ((U'.setTop f).pushFrame (.throwing q)) := by
  have w1 : (Cond.code y bytes maxL ret).before a U = true := hws _ hcode _ _ X.warmed
  obtain ⟨mY, cY, hmY, hcY, -, hlY, -, -, -, -⟩ := Cond.code_spec hn w1
  obtain ⟨kY, hkY, -⟩ := className_of_methodNamed hn
  have hkI : kY.init = .initialized := Cond.initialized_spec (findClass_of_methodNamed hn) hkY (hws _ hini a U X.warmed)
  have here : At U f.method c below := by rw [hg]; exact X.here
  have hroom : (U.calling f mk a).hasRoom e.platform (headSpec ws rm).room = true := X.room_calling (g := f) (R' := (headSpec ws rm).room) hsz hmY hcY hfr (by rw [hlY]; show _ + (_ + 11) + rm.locals ≤ _; omega) (by show c0 + rm.cells ≤ _; rw [hrc]; exact hc) (by show s0 + rm.slots ≤ _; rw [hrs]; exact hs)
  have happ : (headSpec ws rm).appliesLoose y e.platform (U.calling f mk a) = true := Spec.appliesLoose_calling (g := f) here hdg hn hkY hkI hroom (atoms_intro fun x hx => hws x hx _ _ X.warmed)
  obtain ⟨mid, hmid⟩ := here.above
  have hframes : (U.setTop f).frames = (.java f :: mid) ++ below := by rw [State.frames_setTop' f here.top, hmid]; rfl
  obtain ⟨o, t, hsteps, -, hend, hq⟩ := Steps.callFree hM p X.admits X.cas X.clock (acts := []) hframes happ hP trivial
  obtain ⟨q, ho, hTE⟩ : ∃ q : Addr, o = .threw q ∧ xr_TE P g E ad w mc ms (U.calling f mk a) q t := hq
  subst ho
  obtain ⟨ce, L, -, -, -, hW, hsame, hL, -, -⟩ := id hTE
  have hWU : U.WarmedH t.vm := hW
  rw [State.frames_setTop' f here.top] at hend
  have hft : t.frames = .throwing q :: .java f :: U.frames.tail := hend
  obtain ⟨f0, hf0⟩ := Option.isSome_iff_exists.mp here.top
  obtain ⟨rr, hrr⟩ := State.topJava?_eq_some.mp hf0
  obtain ⟨U', hU'⟩ : ∃ z : State, z = ({ U with heap := t.heap, slotsUsed := t.slotsUsed } : State).setVm t.vm := ⟨_, rfl⟩
  have hfr' : U'.frames = .java f0 :: rr := by rw [hU']; exact hrr
  obtain ⟨e2, q2, q3, q4, q5, q6⟩ := id hsame
  have hsU : U.sameButNew ({ U with heap := t.heap, slotsUsed := t.slotsUsed } : State) L mc ms := by
    refine ⟨?_, q2, q3, q4, q5, q6⟩
    obtain ⟨th, hth, -⟩ := State.frames_cons hrr
    show ({ U with heap := t.heap, slotsUsed := t.slotsUsed } : State) = { U.setFrames U.frames with heap := t.heap, slotsUsed := t.slotsUsed }
    rw [State.setFrames_self hth]
  have ht : t = (U'.setTop f).pushFrame (.throwing q) := by
    have e3 : t = ({ (U.calling f mk a).setFrames t.frames with heap := t.heap, slotsUsed := t.slotsUsed } : State).setVm t.vm := by
      have e4 : t = ({ t with vm := (U.calling f mk a).vm } : State).setVm t.vm := rfl
      rw [e2] at e4
      exact e4
    rw [hft, State.calling_eq here.top, State.setFrames_setFrames] at e3
    refine e3.trans ?_
    rw [State.pushFrame, State.frames_setTop _ hfr', State.setTop_of_frames _ hfr', State.setFrames_setFrames, hrr, hU']
    rfl
  refine ⟨q, t, U', L, hTE, by rw [hU']; rfl, by rw [hU']; rfl, hL, ?_, ?_⟩
  · rw [hU']
    have hh : At U m c below := X.here
    exact ⟨X.admits, X.cas, X.clock, X.frames, X.room, X.hears, X.method, X.code, (hh.setHeapUsed t.heap t.slotsUsed).setVm hWU.alike, X.tail, State.WarmedH.trans X.warmed hWU, X.limits, X.bytes, X.same.trans (hsU.setVm s.vm)⟩
  · rw [← ht]
    exact hsteps
/-- behind a call that threw: the exception q lies over the frame -/
def xt_Run (P : xr_P) (g : xr_G) (p : Program) (l : Launch) (e : Env) (R : Room) (s : State) (m : MethodId) (args : Array Value) (below : List Frame) (meth : Method) (c : Code) (H : Heap) (locs : List Loc) (ce sl mc ms : Nat) (f : JFrame) (rest : List Value) (E : String) (ad : Nat → Nat) (w : xr_W) : Prop :=
  ∀ T : State, T.heap = H → Stand p l e R s m args below meth c T locs ce sl → ∃ (q : Addr) (T' : State) (L : List Loc) (x : Cell), Stand p l e R s m args below meth c T' (locs ++ L) (ce + mc) (sl + ms) ∧ (∀ z ∈ L, xg_A g z.base) ∧ xr_At P g ad w T'.heap ∧ va_S (xg_A g) s.heap T'.heap (locs ++ L) ∧ T'.heap[q]? = some x ∧ x.vm = .none ∧ s.vm.findClass E = some x.cls ∧ Steps p.tables e below (T.setTop f) ((T'.setTop { f with stack := rest }).pushFrame (.throwing q))
/-- the frame f with q thrown over it comes to Q -/
def xt_W (p : Program) (l : Launch) (e : Env) (R : Room) (s : State) (m : MethodId) (args : Array Value) (below : List Frame) (meth : Method) (c : Code) (H : Heap) (locs : List Loc) (ce sl : Nat) (Q : State → Prop) (f : JFrame) (q : Addr) : Prop :=
  ∀ T : State, T.heap = H → Stand p l e R s m args below meth c T locs ce sl → ∃ t : State, Steps p.tables e below ((T.setTop f).pushFrame (.throwing q)) t ∧ Q t
theorem xt_cls {T : State} {vm₁ : Vm} {E : String} {k : ClassId} (hW : s.WarmedH vm₁) (h : (T.setVm vm₁).vm.findClass E = some k) : s.vm.findClass E = some k := by
  have h1 : vm₁.findClass E = some k := h
  rw [hW.alike.findClass] at h1
  exact h1
section
variable {args : Array Value} {H : Heap} {locs : List Loc} {ce sl mc ms pc n index maxL : Nat} {ls : Array Slot} {y : MethodName} {ws : List Cond} {rm : Room} {E : String} {ad : Nat → Nat} {ws0 w : xr_W} {As rest : List Value} {bytes cc : ByteArray} {ret : Option FieldType} {own C : String} {st0 : List Value} {b : Addr}
theorem xt_end {T U' t : State} {q : Addr} {vm₁ : Vm} {f : JFrame} {mk : MethodId} {a : Array Value} {L : List Loc} (hT : T.heap = H) (hS : va_S (xg_A g) s.heap H locs) (hW : s.WarmedH vm₁) (hTE : xr_TE P g E ad w mc ms ((T.setVm vm₁).calling f mk a) q t) (e1 : U'.heap = t.heap) (hL : ∀ z ∈ L, xg_A g z.base) :
    ∃ x : Cell, xr_At P g ad w U'.heap ∧ va_S (xg_A g) s.heap U'.heap (locs ++ L) ∧ U'.heap[q]? = some x ∧ x.vm = .none ∧ s.vm.findClass E = some x.cls := by
  obtain ⟨x, -, h1, h2, h3, -, -, -, h4, h5⟩ := hTE
  refine ⟨x, by rw [e1]; exact h4, xr_kept (st₀ := (T.setVm vm₁).calling f mk a) (H := H) hT e1 hS hL h5, by rw [e1]; exact h1, h2, xt_cls (T := T) hW h3⟩
theorem xt_runV (hexec : p.tables.exec = Jvm.exec) (hb : c.code = cc) (hml : c.maxLocals = ls.size) (hown : s.vm.findClass own = some m.cls) (hM : xt_Met P l g y ws rm (xr_Pc P g ad ws0 (.ref b :: As)) E ad w mc ms) (cw : CallW R s args own C index y bytes maxL ret ws rm mc ms n) (hini : Cond.initialized y.cls ∈ ws)
    (hcell : ∃ cellB : Cell, H[ad b]? = some cellB ∧ cellB.vm.isStatics = false ∧ s.vm.findClass C = some cellB.cls) (hpre : ∀ U : State, U.heap = H → s.WarmedH U.vm → xr_Pc P g ad ws0 (.ref b :: As) ((.ref b :: As).map (xr_v ad)).toArray U) (hn : (As.map (xr_v ad)).length = n) (hstack : st0 = (As.map (xr_v ad)).reverse ++ .ref (ad b) :: rest) (hW : 2 * (F0 m pc ls st0).monitorRoom + (rest.map fun v => v.category).sum ≤ 8) (hdg : decode cc pc = .ok (.invokevirtual index, 3)) (hf : ce + mc ≤ R.cells ∧ sl + ms ≤ R.slots) (hS : va_S (xg_A g) s.heap H locs) :
    xt_Run P g p l e R s m args below meth c H locs ce sl mc ms (F0 m pc ls st0) rest E ad w := by
  obtain ⟨⟨hrc, hrs, hfr, hlo, hws, hcw, hcode, -, hy, hlen, hl⟩, hin, hse⟩ := cw
  obtain ⟨cellB, hcB, hoB, hclB⟩ := hcell
  subst hb
  intro T hT X
  obtain ⟨mk, mM, hnm, hmM, hstM, habM⟩ := Cond.instanceMethod_spec hin
  obtain ⟨mM', cM, hmM', -, -, -, -, -, -, hsig⟩ := Cond.code_spec hnm hcode
  cases hmM.symm.trans hmM'
  obtain ⟨c2, r2, m2, q1, q2, q3, q4, kP, hkP, hkPi⟩ := Cond.selects_spec hse
  cases hclB.symm.trans q1
  cases (State.methodFound?_of_named hnm hy).symm.trans q2
  cases hnm.symm.trans q3
  have hsel : selectMethod e.platform s.vm cellB.cls mk = .method mk := by rw [Launch.admits_selectMethod X.admits]; exact q4
  obtain ⟨vm₁, X₁, hstep⟩ := X.invokevirtual hexec hown hl hnm hmM hstM hkP hkPi hy (a := ad b) (cell := cellB) (by rw [hT]; exact hcB) (fun z h => by rw [h] at hoB; cases hoB) hsel hmM habM hkP hkPi (g := F0 m pc ls st0) rfl (argsL := As.map (xr_v ad)) (rest := rest) (hn.trans (hlen _ hsig)) hstack hdg
  obtain ⟨q, t, U', L, hTE, e1, e2, hL, X2, hst⟩ := xt_pay (f := { F0 m pc ls st0 with stack := rest }) hM hrc hrs hfr hlo hws hcw hini X₁ rfl hml.symm hdg hW (X₁.named hnm) (xr_blind ad ws0 _ _ _ _ _ (hpre (T.setVm vm₁) hT X₁.warmed)) hf.1 hf.2
  obtain ⟨x, h1, h2, h3, h4, h5⟩ := xt_end hT hS X₁.warmed hTE e1 hL
  exact ⟨q, U', L, x, X2, hL, h1, h2, h3, h4, h5, hstep _ fun acts => by rw [doInvoke_state]; exact hst⟩
theorem xt_runS (hexec : p.tables.exec = Jvm.exec) (hb : c.code = cc) (hml : c.maxLocals = ls.size) (hown : s.vm.findClass own = some m.cls) (hM : xt_Met P l g y ws rm (xr_Pc P g ad ws0 As) E ad w mc ms) (cw : CallB R s args own index y bytes maxL ret ws rm mc ms n ∧ (Cond.static y).before args s = true) (hini : Cond.initialized y.cls ∈ ws)
    (hpre : ∀ U : State, U.heap = H → s.WarmedH U.vm → xr_Pc P g ad ws0 As (As.map (xr_v ad)).toArray U) (hn : (As.map (xr_v ad)).length = n) (hstack : st0 = (As.map (xr_v ad)).reverse ++ rest) (hW : 2 * (F0 m pc ls st0).monitorRoom + (rest.map fun v => v.category).sum ≤ 8) (hdg : decode cc pc = .ok (.invokestatic index, 3)) (hf : ce + mc ≤ R.cells ∧ sl + ms ≤ R.slots) (hS : va_S (xg_A g) s.heap H locs) :
    xt_Run P g p l e R s m args below meth c H locs ce sl mc ms (F0 m pc ls st0) rest E ad w := by
  obtain ⟨⟨hrc, hrs, hfr, hlo, hws, hcw, hcode, hi, hy, hlen, hl⟩, hstt⟩ := cw
  subst hb
  intro T hT X
  obtain ⟨mk, hnm⟩ := Cond.code_named hcode
  obtain ⟨mM, cM, hmM, -, -, -, -, -, -, hsig⟩ := Cond.code_spec hnm hcode
  have hst : mM.isStatic = true := Cond.static_spec hnm hmM hstt
  obtain ⟨kP, hkP, -⟩ := className_of_methodNamed hnm
  have hkI : kP.init = .initialized := Cond.initialized_spec (findClass_of_methodNamed hnm) hkP hi
  obtain ⟨vm₁, X₁, hstep⟩ := X.invokestatic hexec hown hl hnm hmM hst hkP hkI hy (g := F0 m pc ls st0) rfl (argsL := As.map (xr_v ad)) (rest := rest) (hn.trans (hlen _ hsig)) hstack hdg
  obtain ⟨q, t, U', L, hTE, e1, e2, hL, X2, hst⟩ := xt_pay (f := { F0 m pc ls st0 with stack := rest }) hM hrc hrs hfr hlo hws hcw hini X₁ rfl hml.symm hdg hW (X₁.named hnm) (xr_blind ad ws0 _ _ _ _ _ (hpre (T.setVm vm₁) hT X₁.warmed)) hf.1 hf.2
  obtain ⟨x, h1, h2, h3, h4, h5⟩ := xt_end hT hS X₁.warmed hTE e1 hL
  exact ⟨q, U', L, x, X2, hL, h1, h2, h3, h4, h5, hstep _ fun acts => by rw [doInvoke_state]; exact hst⟩
end
/-- not caught here -/
theorem xt_out {M ce sl pc n0 : Nat} {E : String} {w : xr_W} {ad : Nat → Nat} {H1 : Heap} {locs1 : List Loc} {ls : Array Slot} {rest : List Value} {x : Cell} {q : Addr} {args : Array Value} (cx : xr_Cx P l g M p s m args meth c) (h0 : xp_hh P M = []) (h1 : ce ≤ (xp_I P M).1) (h2 : sl ≤ (xp_I P M).2.1) (hA : xr_At P g ad w H1) (hS : va_S (xg_A g) s.heap H1 locs1) (hx : H1[q]? = some x) (hv : x.vm = .none) (hcl : s.vm.findClass E = some x.cls) :
    xt_W p l e R s m args below meth c H1 locs1 ce sl (xr_QQ P g M ad n0 (.inr E, w) below args s) (F0 m pc ls rest) q := by
  intro T hT X
  obtain ⟨st1, hrun, hend, hW, hsm⟩ := X.leaveThrown q (g := F0 m pc ls rest) rfl rfl rfl (fun z hz => by rw [xc_tb cx, h0] at hz; cases hz) (xc_lk cx)
  refine ⟨_, st1, q, hrun, hend, x, locs1, ?_, hv, hcl, hW, hsm.mono h1 h2, hS.2.2, ?_, ?_⟩
  · show T.heap[q]? = some x
    rw [hT]; exact hx
  · show xr_At P g ad w T.heap
    rw [hT]; exact hA
  · refine ⟨?_, ?_⟩
    · show s.heap.size ≤ T.heap.size
      rw [hT]; exact hS.1
    · intro z z1 z2
      show T.heap[z]? = s.heap[z]?
      rw [hT]; exact hS.2.1 z z1 z2
end
