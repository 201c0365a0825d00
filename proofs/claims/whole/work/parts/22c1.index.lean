/-! INDEXOF: the library's own walk over the text ITRLME. -/
theorem xi_good : ∀ w ∈ xi_T, (w.onTables && w.keeps) = true := by
  intro w hw
  simp only [xi_T, List.mem_cons, List.not_mem_nil, or_false] at hw
  rcases hw with rfl | rfl | rfl | rfl | rfl | rfl | rfl | rfl | rfl | rfl | rfl | rfl | rfl | rfl | rfl | rfl | rfl | rfl | rfl | rfl | rfl | rfl | rfl | rfl | rfl | rfl | rfl | rfl | rfl | rfl | rfl | rfl | rfl | rfl | rfl | rfl | rfl | rfl | rfl | rfl <;> rfl
theorem xi_in (i : Nat) {w : Cond} (h : xi_T[i]? = some w) : w ∈ xi_T := List.mem_of_getElem? h
/-- the text, and that texts are compact -/
def xi_S (g : xr_G) (adV : Nat → Nat) (U : State) (H : Heap) : Prop := vk_S 1 [6] [[73, 84, 82, 76, 77, 69]] (fun _ => xg_sa g) adV (xg_A g) U H ∧ va_Z "java/lang/String" "COMPACT_STRINGS" "Z" (.int 1) (xg_A g) U H
def xi_Pc (g : xr_G) (adV : Nat → Nat) (As : List Value) : Array Value → State → Prop := fun a U => a = As.toArray ∧ xi_S g adV U U.heap
def xi_Qc (v : Int32) : Array Value → State → Outcome → State → Prop := fun _ st o t => o = .returned (some (.int v)) ∧ t.heap = st.heap
def xi_rm (f lo : Nat) : Room := { frames := f, cells := 0, slots := 0, locals := lo }
theorem xi_moved {g : xr_G} {adV : Nat → Nat} {u U : State} {H H1 : Heap} (ha : u.vm.Alike U.vm) (hk : ∀ a : Nat, a < H.size → ¬ xg_A g a → H1[a]? = H[a]?) (h : xi_S g adV u H) : xi_S g adV U H1 :=
  ⟨(h.1.kept hk).moved ha, (h.2.kept hk).moved ha⟩
theorem xi_blind (g : xr_G) (adV : Nat → Nat) (As : List Value) : FrameBlind (xi_Pc g adV As) := by
  intro a U f mk h
  obtain ⟨e1, h1⟩ := h
  have ha : U.vm.Alike (U.calling f mk a).vm := Vm.Alike.refl U.vm
  exact ⟨e1, xi_moved (u := U) (U := U.calling f mk a) ha (fun _ _ _ => rfl) h1⟩
theorem xi_sl_len : ∀ vs : List Value, (lg_sl vs).length = (vs.map Value.category).sum
  | [] => rfl
  | v :: r => by
    have h : lg_sl (v :: r) = (if v.category = 2 then [.val v, .second] else [.val v]) ++ lg_sl r := List.flatMap_cons
    rw [h, List.length_append, xi_sl_len r, List.map_cons, List.sum_cons]
    cases v <;> rfl
/-- the frame's own facts -/
def xi_E (g : xr_G) (adV : Nat → Nat) (y : MethodName) (bytes : ByteArray) (maxL : Nat) (ret : Option FieldType) (p : Program) (s : State) (m : MethodId) (args : Array Value) (meth : Method) (c : Code) : Prop :=
  p.tables.exec = Jvm.exec ∧ c.code = bytes ∧ c.maxLocals = maxL ∧ s.vm.findClass y.cls = some m.cls ∧ (∀ w ∈ xi_T, w.before args s = true) ∧ meth.sig.returnType = ret ∧ meth.locks = false ∧ xi_S g adV s s.heap
section
variable {l : Launch} {g : xr_G} {adV : Nat → Nat}
theorem xi_met {y : MethodName} {bytes : ByteArray} {maxL : Nat} {ret : Option FieldType} {rm : Room} {As : List Value} {v : Int32} (hpl : plainName y.cls = true) (haw : (As.map Value.category).sum ≤ maxL)
    (body : ∀ (p : Program) (e : Env) (s : State) (m : MethodId) (below : List Frame) (meth : Method) (c : Code) (ls : Array Slot), xi_E g adV y bytes maxL ret p s m As.toArray meth c → lv_has ls maxL (lv_args 0 As) →
      W p l e rm s m As.toArray below meth c s.heap [] 0 0 (MQ below (xi_Qc v) As.toArray s 0 0 (xg_A g)) (F0 m 0 ls [])) :
    Met l y (Cond.code y bytes maxL ret :: xi_T) rm (xi_Pc g adV As) (xi_Qc v) 0 0 (xg_A g) := by
  refine Met.ofW (cc := bytes) (maxL := maxL) (ret := ret) hpl rfl ?_
  intro p e s m args below meth c s₁ B hml hP
  obtain ⟨rfl, hS⟩ := hP
  have hts := atoms_spec (ws := Cond.code y bytes maxL ret :: xi_T) B.pre
  have hlen : (lg_sl As).length ≤ maxL := by
    rw [xi_sl_len]
    exact haw
  have hl := lv_entry As (n := maxL) hlen
  rw [lg_entry_eq]
  exact body p e s m below meth c _ ⟨B.exec, B.bytes, hml, findClass_of_methodNamed B.named, fun w hw => hts w (List.mem_cons_of_mem _ hw), B.returns, B.notSynchronized, hS⟩ hl
end
section
variable {l : Launch} {g : xr_G} {adV : Nat → Nat}
/-- a value comes back, the heap as before -/
theorem xi_aft {p : Program} {e : Env} {R : Room} {s : State} {m : MethodId} {args : Array Value} {below : List Frame} {meth : Method} {c : Code} {H : Heap} {locs : List Loc} {ce sl pc : Nat} {ls : Array Slot} {st0 rest : List Value} {Q : State → Prop} {v : Int32} {as : Array Value}
    (hr : va_Run p l e R s m args below meth c H locs ce sl 0 0 (F0 m pc ls st0) rest (xi_Qc v as) (xg_A g)) (hS : va_S (xg_A g) s.heap H locs)
    (kk : ∀ locs1 : List Loc, va_S (xg_A g) s.heap H locs1 → W p l e R s m args below meth c H locs1 ce sl Q (F0 m (pc + 3) ls (.int v :: rest))) :
    W p l e R s m args below meth c H locs ce sl Q (F0 m pc ls st0) := by
  intro T hT X
  obtain ⟨v', st₀, t, T', L, h0, X', hL, e1, e2, ⟨ho, hh⟩, st⟩ := hr T hT X
  cases ho
  have hT' : T'.heap = H := e1.trans (hh.trans h0)
  have hS' : va_S (xg_A g) s.heap H (locs ++ L) := ⟨hS.1, hS.2.1, fun z hz => by
    rcases List.mem_append.mp hz with hz | hz
    · exact hS.2.2 z hz
    · exact hL z hz⟩
  obtain ⟨t2, a1, b1⟩ := kk (locs ++ L) hS' T' hT' X'
  exact ⟨t2, st t2 a1, b1⟩
theorem xi_pre {s : State} {As : List Value} {H : Heap} {locs : List Loc} (h : xi_S g adV s s.heap) (hS : va_S (xg_A g) s.heap H locs) : ∀ U : State, U.heap = H → s.WarmedH U.vm → xi_Pc g adV As As.toArray U :=
  fun U hU hW => ⟨rfl, by rw [hU]; exact xi_moved hW.alike hS.2.1 h⟩
/-- a static call -/
theorem xi_callS {p : Program} {e : Env} {R rm : Room} {s : State} {m : MethodId} {args : Array Value} {below : List Frame} {meth : Method} {c : Code} {H : Heap} {locs : List Loc} {ce sl pc index n maxL nL : Nat} {ls : Array Slot} {As rest : List Value} {Q : State → Prop} {v : Int32} {y : MethodName} {bytes cc : ByteArray} {ret : Option FieldType} {own : String} {Ts : List Cond}
    (hfix : CallFix p m c cc nL s args Ts own) (hin : ∀ w ∈ xi_T, w ∈ Ts) (hM : Met l y (Cond.code y bytes maxL ret :: xi_T) rm (xi_Pc g adV As) (xi_Qc v) 0 0 (xg_A g)) (hrc : rm.cells = 0) (hrs : rm.slots = 0) (h1 : Cond.methodLink own index y ∈ xi_T) (h2 : Cond.static y ∈ xi_T) (h3 : Cond.initialized y.cls ∈ xi_T) (h4 : Cond.code y bytes maxL ret ∈ xi_T)
    (hnd : y.cls ≠ "java/lang/invoke/MethodHandle" ∧ y.cls ≠ "java/lang/invoke/VarHandle" ∧ (parseMethodDescriptor y.desc).map (fun d => d.parameters.length) = some n) (hn : As.length = n) (hR : rm.frames + 1 ≤ R.frames ∧ 8 + (maxL + 11) + rm.locals ≤ R.locals) (hls : ls.size = nL) (hX : xi_S g adV s s.heap) (hS : va_S (xg_A g) s.heap H locs) (hrest : (rest.map fun v => v.category).sum ≤ 8) (hd : decode cc pc = .ok (.invokestatic index, 3)) (hce : ce ≤ R.cells ∧ sl ≤ R.slots)
    (kk : ∀ locs1 : List Loc, va_S (xg_A g) s.heap H locs1 → W p l e R s m args below meth c H locs1 ce sl Q (F0 m (pc + 3) ls (.int v :: rest))) : W p l e R s m args below meth c H locs ce sl Q (F0 m pc ls (As.reverse ++ rest)) := by
  have hts : ∀ w ∈ Ts, w.before args s = true := hfix.2.2.2.2
  have cw := va_cwS (R := R) (own := own) (index := index) (y := y) (rm := rm) (ws := Cond.code y bytes maxL ret :: xi_T) n hts (by
    intro w hw
    have hw2 : w ∈ xi_T := by
      unfold va_wsS at hw
      rcases List.mem_append.mp hw with hw | hw
      · simp only [List.mem_cons, List.not_mem_nil, or_false] at hw
        rcases hw with rfl | rfl | rfl
        · exact h1
        · exact h2
        · exact h3
      · rcases List.mem_cons.mp hw with rfl | hw
        · exact h4
        · exact hw
    exact ⟨hin w hw2, Or.inl (xi_good w hw2)⟩) rfl hrc hrs hnd hR
  exact xi_aft (va_runS (As := As) (rest := rest) hfix hM cw ⟨xi_blind g adV As, xi_pre hX hS⟩ rfl hn hls rfl (lv_room hrest) hd ⟨hce.1, hce.2⟩) hS kk
/-- a virtual call on the text -/
theorem xi_callV {p : Program} {e : Env} {R rm : Room} {s : State} {m : MethodId} {args : Array Value} {below : List Frame} {meth : Method} {c : Code} {H : Heap} {locs : List Loc} {ce sl pc index n maxL nL : Nat} {ls : Array Slot} {As rest : List Value} {Q : State → Prop} {v : Int32} {y : MethodName} {bytes cc : ByteArray} {ret : Option FieldType} {own : String} {Ts : List Cond}
    (hfix : CallFix p m c cc nL s args Ts own) (hin : ∀ w ∈ xi_T, w ∈ Ts) (hM : Met l y (Cond.code y bytes maxL ret :: xi_T) rm (xi_Pc g adV (.ref (xg_sa g) :: As)) (xi_Qc v) 0 0 (xg_A g)) (hrc : rm.cells = 0) (hrs : rm.slots = 0) (h1 : Cond.methodLink own index y ∈ Ts ∧ ((Cond.methodLink own index y).onTables && (Cond.methodLink own index y).keeps) = true) (hyc : y.cls = "java/lang/String") (h2 : Cond.instanceMethod y ∈ xi_T) (h3 : Cond.selects y.cls y y ∈ xi_T) (h3' : Cond.initialized y.cls ∈ xi_T) (h4 : Cond.code y bytes maxL ret ∈ xi_T)
    (hnd : y.cls ≠ "java/lang/invoke/MethodHandle" ∧ y.cls ≠ "java/lang/invoke/VarHandle" ∧ (parseMethodDescriptor y.desc).map (fun d => d.parameters.length) = some n) (hn : As.length = n) (hR : rm.frames + 1 ≤ R.frames ∧ 8 + (maxL + 11) + rm.locals ≤ R.locals) (hls : ls.size = nL) (hX : xi_S g adV s s.heap) (hS : va_S (xg_A g) s.heap H locs) (hrest : (rest.map fun v => v.category).sum ≤ 8) (hd : decode cc pc = .ok (.invokevirtual index, 3)) (hce : ce ≤ R.cells ∧ sl ≤ R.slots)
    (kk : ∀ locs1 : List Loc, va_S (xg_A g) s.heap H locs1 → W p l e R s m args below meth c H locs1 ce sl Q (F0 m (pc + 3) ls (.int v :: rest))) : W p l e R s m args below meth c H locs ce sl Q (F0 m pc ls (As.reverse ++ .ref (xg_sa g) :: rest)) := by
  have hts : ∀ w ∈ Ts, w.before args s = true := hfix.2.2.2.2
  have cw := cwV (R := R) (own := own) (index := index) (C := y.cls) (y := y) (rm := rm) (ws := Cond.code y bytes maxL ret :: xi_T) n hts (by
    intro w hw
    unfold wsV at hw
    rcases List.mem_append.mp hw with hw | hw
    · simp only [List.mem_cons, List.not_mem_nil, or_false] at hw
      rcases hw with rfl | rfl | rfl | rfl
      · exact ⟨h1.1, Or.inl h1.2⟩
      · exact ⟨hin _ h2, Or.inl (xi_good _ h2)⟩
      · exact ⟨hin _ h3, Or.inl (xi_good _ h3)⟩
      · exact ⟨hin _ h3', Or.inl (xi_good _ h3')⟩
    · rcases List.mem_cons.mp hw with rfl | hw
      · exact ⟨hin _ h4, Or.inl (xi_good _ h4)⟩
      · exact ⟨hin _ hw, Or.inl (xi_good _ hw)⟩) rfl hrc hrs ⟨rfl, hnd.1, hnd.2.1, hnd.2.2⟩ hR
  have hrv := vk_recv hX.1 (i := 0) (by omega) hS
  rw [← hyc] at hrv
  exact xi_aft (va_runV (As := As) (b := xg_sa g) (rest := rest) hfix hM cw ⟨xi_blind g adV _, hrv, xi_pre hX hS⟩ rfl hn hls rfl (lv_room hrest) hd ⟨hce.1, hce.2⟩) hS kk
/-- the end of a method -/
theorem xi_ret {y : MethodName} {bytes : ByteArray} {maxL : Nat} {ty : FieldType} {p : Program} {e : Env} {R : Room} {s : State} {m : MethodId} {args : Array Value} {below : List Frame} {meth : Method} {c : Code} {locs : List Loc} {pc : Nat} {ls : Array Slot} {v : Int32} (E : xi_E g adV y bytes maxL (some ty) p s m args meth c) (hS : va_S (xg_A g) s.heap s.heap locs) (hd : decode bytes pc = .ok (.ireturn, 1)) (hf : fits ty (.int v) = true) :
    W p l e R s m args below meth c s.heap locs 0 0 (MQ below (xi_Qc v) args s 0 0 (xg_A g)) (F0 m pc ls [.int v]) :=
  W.zret E.1 E.2.1 E.2.2.2.2.2.1 (narrow_of_fits hf) (fun t ht _ => ⟨rfl, ht⟩) hS.2.2 hd E.2.2.2.2.2.2.1
end
