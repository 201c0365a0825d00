/-! throw new E("text"), and a handler -/
section
variable {P : xr_P} {l : Launch} {g : xr_G} {R : Room} {p : Program} {e : Env} {below : List Frame} {s : State} {args : Array Value} {m : MethodId} {meth : Method} {c : Code}
/-- the state T taken as a method's start -/
def xt_base (s T : State) (m : MethodId) (args : Array Value) (below : List Frame) : State := (T.setVm s.vm).setFrames (.invoking m args :: below)
theorem xt_rebase {T : State} {locs : List Loc} {ce sl : Nat} (X : Stand p l e R s m args below meth c T locs ce sl) {k n : Nat} (hc : ce + k ≤ R.cells) (hs : sl + n ≤ R.slots) : Stand p l e ({ frames := R.frames, cells := k, slots := n, locals := R.locals } : Room) (xt_base s T m args below) m args below meth c T [] 0 0 := by
  have htop : (T.setVm s.vm).topJava?.isSome := X.here.top
  have hfrm : (xt_base s T m args below).frames = .invoking m args :: below := State.frames_setFrames _ (State.cur_lt_of_top htop)
  obtain ⟨f0, hf0⟩ := Option.isSome_iff_exists.mp htop
  obtain ⟨fs, hfs⟩ := State.topJava?_eq_some.mp hf0
  have hlim : e.platform.stackLimits (T.setVm s.vm).me = e.platform.stackLimits s.me := X.limits
  have hbyt : (T.setVm s.vm).me.stackBytes = s.me.stackBytes := X.bytes
  have hnil : (T.heap.toList.drop T.heap.size) = [] := List.drop_eq_nil_of_le (Nat.le_of_eq Array.length_toList)
  have hroom : (xt_base s T m args below).hasRoom e.platform ({ frames := R.frames, cells := k, slots := n, locals := R.locals } : Room) = true := by
    have h := X.room
    have hU : (xt_base s T m args below).localsInUse = s.localsInUse := by
      rw [State.localsInUse_invoking hfrm (meth := meth) (c := c) X.method X.code, State.localsInUse_invoking X.frames X.method X.code]
    have z1 := X.heapSize
    have z2 := X.used
    simp only [State.hasRoom, Bool.and_eq_true, decide_eq_true_eq] at h ⊢
    obtain ⟨⟨⟨⟨h1, h2, h3, h4, h5, h6⟩, h7⟩, h8⟩, h9⟩ := h
    rw [X.frames, List.length_cons] at h2 h3
    have b1 : e.platform.stackLimits (xt_base s T m args below).me = e.platform.stackLimits s.me := by unfold xt_base; rw [State.stackLimits_setFrames]; exact hlim
    have b2 : (xt_base s T m args below).me.stackBytes = s.me.stackBytes := by unfold xt_base; rw [State.stackBytes_setFrames]; exact hbyt
    simp only [hfrm, hU, List.length_cons, b1, b2]
    refine ⟨⟨⟨⟨by omega, by omega, by omega, by omega, by omega, h6⟩, ?_⟩, ?_⟩, X.book⟩
    · show T.heap.size + k ≤ e.platform.maxCells
      omega
    · show T.slotsUsed + n ≤ e.platform.maxSlots
      omega
  refine ⟨X.admits, X.cas, X.clock, hfrm, hroom, X.hears, X.method, X.code, X.here, X.tail, X.warmed, ?_, ?_, ?_⟩
  · unfold xt_base; rw [State.stackLimits_setFrames]; rfl
  · unfold xt_base; rw [State.stackBytes_setFrames]; rfl
  · refine ⟨?_, Nat.le_refl _, Nat.le_refl _, ?_, ?_, fun a c9 h9 => ⟨c9, h9, rfl, rfl, fun _ _ => rfl⟩⟩
    · obtain ⟨th, hth, -⟩ := State.frames_cons hfs
      unfold xt_base
      show T.setVm s.vm = { ((T.setVm s.vm).setFrames (.invoking m args :: below)).setFrames (T.setVm s.vm).frames with heap := T.heap, slotsUsed := T.slotsUsed }
      rw [State.setFrames_setFrames, State.setFrames_self hth]
      rfl
    · show T.slotsUsed = T.slotsUsed + ((T.heap.toList.drop T.heap.size).map (·.slots.size)).sum
      rw [hnil]
      rfl
    · show ((T.heap.toList.drop T.heap.size).map (·.slots.size)).sum ≤ 0
      rw [hnil]
      exact Nat.le_refl _
/-- old cells stay when nothing old is named -/
theorem xt_same {U : State} {k n : Nat} (h : s.sameButNew ({ U with vm := s.vm } : State) [] k n) : s.heap.size ≤ U.heap.size ∧ ∀ q : Nat, q < s.heap.size → U.heap[q]? = s.heap[q]? := by
  obtain ⟨-, h2, -, -, -, h6⟩ := h
  refine ⟨h2, fun q hq => ?_⟩
  obtain ⟨c9, e1, e2, e3, e4⟩ := h6 q _ (Array.getElem?_eq_getElem hq)
  have hsl : c9.slots = (s.heap[q]).slots := Array.ext_getElem? fun i => e4 i fun hm => nomatch hm
  have e5 : U.heap[q]? = some c9 := e1
  rw [hsl] at e2
  rw [e5, Array.getElem?_eq_getElem hq]
  exact congrArg some e2
theorem xj_throw {M ce sl pc k a : Nat} {lv : List (Nat × Value)} {ws : xr_W} (hT : ∀ w ∈ xp_T P, (w.onTables && w.keeps) = true ∨ ∃ ty, w = .arrayClass ty) (hd : decode (xp_cd P M) pc = .ok (.new k, 3)) (hf : xr_th P M pc k a) (hal : (xp_I P M).2.2.1 = false) (hno : xp_hh P M = []) (h1 : ce + 1 ≤ (xp_I P M).1) (h2 : sl + 6 ≤ (xp_I P M).2.1) : xr_J P l g M ce sl pc lv [] ws (.inr ((xp_t P).2.1 a), ws) := by
  intro p e s m args below meth c H locs ls ad ad0 n0 cx lo hl hA hS T hTH X
  obtain ⟨text, names, is, ic, hfit, hfits, hcl, hini, hstr, hat, d3, d4, d6, d9, hfr, hlc⟩ := hf
  generalize hE : (xp_t P).2.1 a = E at *
  have had : ad = ad0 := lo.2.2.2.2 hal
  subst had
  obtain ⟨sa, hsa⟩ := (xc_fx cx).2.2.2.1 _ hstr
  have hexec := xc_ex cx
  have hcd := xc_cd cx
  have htr : e.platform.stackTraces = false := (show e.platform.stackTraces = l.stackTraces by rw [X.admits.platform]).trans (xc_st cx)
  have Y := xt_rebase X (k := 1) (n := 6) h1 h2
  obtain ⟨s', hs'⟩ : ∃ z, z = xt_base s T m args below := ⟨_, rfl⟩
  rw [← hs'] at Y
  have hvm : s'.vm = s.vm := by rw [hs']; rfl
  have hhp : s'.heap = H := by rw [hs']; exact hTH
  have hW0 : s.WarmedH s'.vm := by rw [hvm]; exact State.WarmedH.refl s
  have hgood : ∀ w ∈ xp_T P, w.before args s' = true := fun w hw => word_at hW0 (hT w hw) (xc_ts cx w hw)
  have hall : ∀ w ∈ Bundle.ownAtoms (xp_own P M) ic E names, w.before args s' = true := by
    intro w hw
    rcases hat w hw with h | h
    · exact hgood w h
    · refine (xc_fx cx).2.2.2.2.2.2 w h args s' hW0 (fun q hq => ?_)
      rw [hhp]
      exact hS.2.1 q (Nat.lt_of_lt_of_le hq (xc_fx cx).2.2.1.2) (Nat.not_le.mpr hq)
  have hown' : s'.vm.findClass (xp_own P M) = some m.cls := by rw [hvm]; exact xc_ow cx
  have hins : (Cond.instantiable E 6).before args s' = true := hall _ (by simp [Bundle.ownAtoms])
  obtain ⟨vm₁, cX, kX, hfX, hkX, -, -, X₁, st1⟩ := Y.newCold hexec (own := xp_own P M) (C := E) (index := k) (n := 6) hown' (hgood _ hcl) hins (hgood _ hini) (g := F0 m pc ls []) rfl (by rw [hcd]; exact hd) (Nat.le_refl _) (Nat.le_refl _)
  generalize hT1 : (T.setVm vm₁).pushCell { cls := cX, slots := kX.instanceTypes.map defaultValue, vm := .none } = T1 at X₁ st1
  have hnew : T1.heap[T.heap.size]? = some (freshCell cX kX) := by rw [← hT1]; exact State.heap_pushCell_size _ _
  have hsa' : vk_R (xp_own P M) is text sa s' := vk_R.warm hW0 hsa
  obtain ⟨U, hsteps, hrun, hend, hW, hsame, x, hx, hO⟩ := X₁.ctorThrowS hexec htr (own := xp_own P M) (cls := E) (names := names) (ic := ic) hown' hfit hfits hall (fun z hz => nomatch hz) hfX hkX hnew (by rw [hhp, hTH]; exact Nat.le_refl _) (msg := .ref sa) rfl
    (g := { method := m, pc := pc + 6, locals := ls, stack := .ref sa :: .ref T.heap.size :: .ref T.heap.size :: [], locked := none }) rfl (hl.1.trans (xc_ml cx).symm) rfl rfl (rest := []) rfl (by rw [hcd]; exact d6) (by rw [hcd]; exact d9) (fun z hz => by rw [xc_tb cx, hno] at hz; cases hz) hfr
    (by show 2 * 0 + (1 + 0) + (13 * (names.length + 1) + 42) ≤ (xp_rm P M).locals; omega) (xc_lk cx)
  obtain ⟨f1, f2⟩ := xt_same hsame
  rw [hhp] at f1 f2
  have hWs : s.WarmedH U.vm := State.WarmedH.trans hW0 hW
  have hcls : s.vm.findClass E = some x.cls := by
    have h9 := hO.cls
    rw [hvm] at h9
    exact h9
  have hsm : s.sameButNew ({ U with vm := s.vm } : State) locs (xp_I P M).1 (xp_I P M).2.1 := by
    subst hs'
    obtain ⟨e1, e2⟩ := hsame
    unfold xt_base at e1
    rw [State.setFrames_setFrames] at e1
    have h3 : (T.setVm s.vm).sameButNew ({ U with vm := s.vm } : State) [] (0 + 1) (0 + 6) := ⟨e1, e2⟩
    have h4 := X.same.trans h3
    rw [List.append_nil] at h4
    exact h4.mono h1 h2
  refine ⟨U, ?_, T.heap.size, hrun, hend, x, locs, hx, hO.vm, hcls, hWs, hsm, hS.2.2, xr_At_kept hA f2, Nat.le_trans hS.1 f1, fun q q1 q2 => (f2 q (Nat.lt_of_lt_of_le q1 hS.1)).trans (hS.2.1 q q1 q2)⟩
  refine st1 _ ?_
  have d3' : decode c.code (pc + 3) = .ok (.dup, 1) := by rw [hcd]; exact d3
  have d4' : decode c.code (pc + 4) = .ok (.ldc is, 2) := by rw [hcd]; exact d4
  show Steps p.tables e below (T1.setTop { method := m, pc := pc + 3, locals := ls, stack := .ref T.heap.size :: [], locked := none }) _
  jvm_step X₁.here [X₁.here.top, hexec, d3', Value.category]
  exact X₁.ldcString hexec (own := xp_own P M) (text := text) (index := is) (a := sa) hown' hsa'.1 hsa'.2 (g := { method := m, pc := pc + 4, locals := ls, stack := .ref T.heap.size :: .ref T.heap.size :: [], locked := none }) rfl d4' _ hsteps
/-- caught by the row x of the method's table -/
theorem xt_catch {H : Heap} {locs : List Loc} {ce sl pc : Nat} {ls : Array Slot} {rest : List Value} {Q : State → Prop} {own name E : String} {y : Cell} {q : Addr} (hown : s.vm.findClass own = some m.cls) (pre : List ExceptionTableEntry) (x : ExceptionTableEntry) (suf : List ExceptionTableEntry) (hsplit : c.exceptionTable.toList = pre ++ x :: suf)
    (hpass : ∀ z ∈ pre, covers z pc = false ∨ (z.catchType ≠ 0 ∧ ∃ nm : String, (Cond.classLink own z.catchType nm).before args s = true ∧ va_Nc E nm s)) (hx : covers x pc = true) (h0 : x.catchType ≠ 0) (hlink : (Cond.classLink own x.catchType name).before args s = true) (hcast : (Cond.castable E name).before args s = true) (hcell : H[q]? = some y) (hv : y.vm = .none) (hcl : s.vm.findClass E = some y.cls)
    (kk : W p l e R s m args below meth c H locs ce sl Q (F0 m x.handlerPc ls [.ref q])) : xt_W p l e R s m args below meth c H locs ce sl Q (F0 m pc ls rest) q := by
  intro T hT X
  have hpl : e.platform.magicAccessors = ({} : Platform).magicAccessors := by rw [X.admits.platform]
  obtain ⟨cE, cN, hcE, hcN, hasg⟩ := Cond.castable_spec hcast
  cases Option.some.inj (hcE.symm.trans hcl)
  obtain ⟨cL, hcL, hlk⟩ := Cond.classLink_spec hown hlink e.platform hpl
  cases Option.some.inj (hcN.symm.trans hcL)
  have hk : ∃ k, s.vm.classes[y.cls]? = some k := by
    obtain ⟨k9, h9, -⟩ := Vm.findClass_spec hcl
    exact ⟨k9, h9⟩
  obtain ⟨vm', X', st⟩ := X.thenCaughtThrough q (g := F0 m pc ls rest) rfl (Steps.refl _) (by rw [hT]; exact hcell) (by rw [hv]; rfl) hk pre x suf hsplit
    (fun z hz => by
      rcases hpass z hz with h | ⟨hz0, nm, hl1, c8, t8, k1, k2, k3⟩
      · exact Or.inl h
      · obtain ⟨c6, hc6, hcl6⟩ := Cond.classLink_spec hown hl1 e.platform hpl
        cases Option.some.inj (k1.symm.trans hcl)
        cases Option.some.inj (k2.symm.trans hc6)
        exact Or.inr ⟨hz0, _, hcl6, k3⟩) hx (Or.inr ⟨h0, cN, hlk, hasg⟩)
  obtain ⟨t, a1, b1⟩ := kk (T.setVm vm') hT X'
  exact ⟨t, st.trans a1, b1⟩
end
