/-! SOUNDNESS: what the run answers, the machine does. -/
/-- a method as the machine needs it: name, bytes, locals, exception table, frames and words of locals that it may use -/
abbrev xr_D : Type := MethodName × ByteArray × Nat × List (Nat × Nat × Nat × Nat) × Nat × Nat
/-- the program: words, classes, number of methods, methods, tables, types, texts of throws, pairs of exceptions of which one isn't the other, the text ITRLME's place, the words of throws that speak of the heap -/
abbrev xr_P : Type := List Cond × List vw_C × Nat × (Nat → xr_D) × (Nat → List xr_E × xr_M) × xr_T × List (String × Nat × String) × List (String × String) × (String × Nat) × List Cond
abbrev xp_T (P : xr_P) : List Cond := P.1
abbrev xp_cl (P : xr_P) : List vw_C := P.2.1
abbrev xp_N (P : xr_P) : Nat := P.2.2.1
abbrev xp_D (P : xr_P) : Nat → xr_D := P.2.2.2.1
abbrev xp_B (P : xr_P) : Nat → List xr_E × xr_M := P.2.2.2.2.1
abbrev xp_t (P : xr_P) : xr_T := P.2.2.2.2.2.1
abbrev xp_s (P : xr_P) : List (String × Nat × String) := P.2.2.2.2.2.2.1
abbrev xp_n (P : xr_P) : List (String × String) := P.2.2.2.2.2.2.2.1
abbrev xp_x (P : xr_P) : String × Nat := P.2.2.2.2.2.2.2.2.1
abbrev xp_z (P : xr_P) : List Cond := P.2.2.2.2.2.2.2.2.2
abbrev xp_y (P : xr_P) (M : Nat) : MethodName := (xp_D P M).1
abbrev xp_own (P : xr_P) (M : Nat) : String := (xp_D P M).1.cls
abbrev xp_cd (P : xr_P) (M : Nat) : ByteArray := (xp_D P M).2.1
abbrev xp_ml (P : xr_P) (M : Nat) : Nat := (xp_D P M).2.2.1
abbrev xp_hh (P : xr_P) (M : Nat) : List (Nat × Nat × Nat × Nat) := (xp_D P M).2.2.2.1
abbrev xp_I (P : xr_P) (M : Nat) : xr_M := (xp_B P M).2
abbrev xp_rt (P : xr_P) (M : Nat) : Option FieldType := (xp_B P M).2.2.2.2.2.1
def xp_rm (P : xr_P) (M : Nat) : Room := { frames := (xp_D P M).2.2.2.2.1, cells := (xp_B P M).2.1, slots := (xp_B P M).2.2.1, locals := (xp_D P M).2.2.2.2.2 }
def xp_hd (P : xr_P) (M : Nat) : Cond := match xp_hh P M with
  | [] => .code (xp_y P M) (xp_cd P M) (xp_ml P M) (xp_rt P M)
  | h :: t => .codeWith (xp_y P M) (xp_cd P M) (xp_ml P M) (xp_rt P M) (h :: t)
def xp_w (P : xr_P) (M : Nat) : List Cond := xp_hd P M :: xp_T P
/-- the launch's numbers: the classes' ids and slots, the array classes, the script's place, length and ints, the first new place, the text's place -/
abbrev xr_G : Type := (Nat → ClassId) × (Nat → Nat → Nat) × (Nat → ClassId) × Nat × Nat × (Nat → Int32) × Nat × Nat
abbrev xg_D (g : xr_G) : va_G := (g.1, g.2.1)
abbrev xg_c (g : xr_G) : Nat → ClassId := g.2.2.1
abbrev xg_b (g : xr_G) : Nat := g.2.2.2.1
abbrev xg_L (g : xr_G) : Nat := g.2.2.2.2.1
abbrev xg_xs (g : xr_G) : Nat → Int32 := g.2.2.2.2.2.1
abbrev xg_lo (g : xr_G) : Nat := g.2.2.2.2.2.2.1
abbrev xg_sa (g : xr_G) : Nat := g.2.2.2.2.2.2.2
abbrev xg_sc (g : xr_G) : Nat × (Nat → Int32) := (g.2.2.2.2.1, g.2.2.2.2.2.1)
def xg_A (g : xr_G) : Nat → Prop := fun q => xg_lo g ≤ q
def xt_at (t : Nat) : FieldType := match t with
  | 0 => .int
  | 1 => .long
  | 2 => .char
  | _ => .boolean
def xr_tys (g : xr_G) : List (ClassId × FieldType) := [(xg_c g 0, .int), (xg_c g 1, .long), (xg_c g 2, .char), (xg_c g 3, .boolean)]
/-- places to addresses -/
def xr_v (ad : Nat → Nat) : Value → Value
  | .ref k => .ref (ad k)
  | v => v
def xr_c (g : xr_G) (ad : Nat → Nat) : xr_C → va_E
  | .inl a => .inl (xg_c g a.1, a.2)
  | .inr o => .inr (o.1, o.2.map (xr_v ad))
def xr_w (g : xr_G) (ad : Nat → Nat) (ws : xr_W) : va_W := ws.mapIdx (fun k c => (ad (k + 2), xr_c g ad c))
def xr_l (ad : Nat → Nat) (lv : List (Nat × Value)) : List (Nat × Value) := lv.map (fun q => (q.1, xr_v ad q.2))
/-- the text ITRLME, and that texts are compact -/
def xr_Sx (g : xr_G) (U : State) (H : Heap) : Prop := (∃ adV : Nat → Nat, vk_S 1 [6] [[73, 84, 82, 76, 77, 69]] (fun _ => xg_sa g) adV (xg_A g) U H) ∧ va_Z "java/lang/String" "COMPACT_STRINGS" "Z" (.int 1) (xg_A g) U H
/-- what holds of every state of the law -/
def xr_Fx (P : xr_P) (g : xr_G) (U : State) (H : Heap) : Prop :=
  va_K (xg_D g) (xp_cl P) (xr_tys g) U ∧ va_X (xg_b g) (xg_L g) (xg_xs g) U H ∧ (xg_b g < xg_lo g ∧ xg_lo g ≤ H.size) ∧ (∀ q ∈ xp_s P, ∃ sa : Nat, vk_R q.1 q.2.1 q.2.2 sa U) ∧ (vk_R (xp_x P).1 (xp_x P).2 "ITRLME" (xg_sa g) U ∧ xr_Sx g U H) ∧ (∀ q ∈ xp_n P, va_Nc q.1 q.2 U) ∧ ∀ w ∈ xp_z P, ∀ (a' : Array Value) (V : State), U.WarmedH V.vm → (∀ q : Nat, q < xg_lo g → V.heap[q]? = H[q]?) → w.before a' V = true
/-- the world in the heap -/
def xr_At (P : xr_P) (g : xr_G) (ad : Nat → Nat) (ws : xr_W) (H : Heap) : Prop :=
  va_P (xg_D g) (xp_cl P) (xr_w g ad ws) H ∧ va_D (xg_A g) (xr_w g ad ws) ∧ ad 0 = xg_b g ∧ ad 1 = xg_sa g
def xr_Pc (P : xr_P) (g : xr_G) (ad : Nat → Nat) (ws : xr_W) (As : List Value) : Array Value → State → Prop := fun a U => a = (As.map (xr_v ad)).toArray ∧ xr_Fx P g U U.heap ∧ xr_At P g ad ws U.heap
/-- what a method answers: al says whether it makes cells, n how many cells the world had -/
def xr_Qc (P : xr_P) (g : xr_G) (ad : Nat → Nat) (n : Nat) (al : Bool) (r : xr_R) : Array Value → State → Outcome → State → Prop := fun _ st o t =>
  ∃ (v : Option Value) (ad' : Nat → Nat), r.1 = .inl v ∧ (∀ k, k < n + 2 → ad' k = ad k) ∧ (al = false → ad' = ad) ∧ o = .returned (v.map (xr_v ad')) ∧ xr_At P g ad' r.2 t.heap ∧ va_F (xg_A g) st t
/-- the end of a method that threw E: q the exception, the world w as before but for what was written -/
def xr_TE (P : xr_P) (g : xr_G) (E : String) (ad : Nat → Nat) (w : xr_W) (mc ms : Nat) (s : State) (q : Addr) (t : State) : Prop := ∃ (ce : Cell) (L : List Loc), t.heap[q]? = some ce ∧ ce.vm = .none ∧ s.vm.findClass E = some ce.cls ∧ s.WarmedH t.vm ∧ s.sameButNew ({ t with vm := s.vm } : State) L mc ms ∧ (∀ z ∈ L, xg_A g z.base) ∧ xr_At P g ad w t.heap ∧ va_F (xg_A g) s t
/-- what is owed at the end of a method of the answer r -/
def xr_QQ (P : xr_P) (g : xr_G) (M : Nat) (ad : Nat → Nat) (n : Nat) (r : xr_R) (below : List Frame) (args : Array Value) (s : State) : State → Prop := match r.1 with
  | .inl _ => MQ below (xr_Qc P g ad n (xp_I P M).2.2.1 r) args s (xp_I P M).1 (xp_I P M).2.1 (xg_A g)
  | .inr E => fun t => ∃ q : Addr, t.status = .running ∧ Ended t below (.threw q) ∧ xr_TE P g E ad r.2 (xp_I P M).1 (xp_I P M).2.1 s q t
/-- the frame's own facts -/
def xr_Cx (P : xr_P) (l : Launch) (g : xr_G) (M : Nat) (p : Program) (s : State) (m : MethodId) (args : Array Value) (meth : Method) (c : Code) : Prop :=
  M < xp_N P ∧ l.stackTraces = false ∧ p.tables.exec = Jvm.exec ∧ c.code = xp_cd P M ∧ c.maxLocals = xp_ml P M ∧ s.vm.findClass (xp_own P M) = some m.cls ∧ (∀ w ∈ xp_T P, w.before args s = true) ∧ meth.sig.returnType = xp_rt P M ∧ meth.locks = false ∧ meth.name = (xp_y P M).name ∧ c.exceptionTable.toList = tableOf (xp_hh P M) ∧ xr_Fx P g s s.heap
/-- since the method's entry: cells and slots in bounds, the addresses grown -/
def xr_Lo (P : xr_P) (M ce sl : Nat) (ws : xr_W) (ad ad0 : Nat → Nat) (n0 : Nat) : Prop :=
  ce ≤ (xp_I P M).1 ∧ sl ≤ (xp_I P M).2.1 ∧ ((xp_I P M).2.2.1 = true → n0 ≤ ws.length) ∧ (∀ k, k < n0 + 2 → ad k = ad0 k) ∧ ((xp_I P M).2.2.1 = false → ad = ad0)
/-- the machine goes from here to the answer r -/
def xr_J (P : xr_P) (l : Launch) (g : xr_G) (M ce sl pc : Nat) (lv : List (Nat × Value)) (st : List Value) (ws : xr_W) (r : xr_R) : Prop :=
  ∀ (p : Program) (e : Env) (s : State) (m : MethodId) (args : Array Value) (below : List Frame) (meth : Method) (c : Code) (H : Heap) (locs : List Loc) (ls : Array Slot) (ad ad0 : Nat → Nat) (n0 : Nat),
    xr_Cx P l g M p s m args meth c → xr_Lo P M ce sl ws ad ad0 n0 → lv_has ls (xp_ml P M) (xr_l ad lv) → xr_At P g ad ws H → va_S (xg_A g) s.heap H locs →
    W p l e (xp_rm P M) s m args below meth c H locs ce sl (xr_QQ P g M ad0 n0 r below args s) (F0 m pc ls (st.map (xr_v ad)))
/-- what a way k of going on promises -/
def xr_Go (P : xr_P) (l : Launch) (g : xr_G) (k : xr_K → Option xr_R) : Prop :=
  ∀ (M ce sl pc : Nat) (lv : List (Nat × Value)) (st : List Value) (ws : xr_W) (r : xr_R), k (M, (xp_B P M).1, (xp_B P M).2, ce, sl, pc, lv, st, ws) = some r → xr_J P l g M ce sl pc lv st ws r
/-! the values -/
theorem xr_v_cat (ad : Nat → Nat) (v : Value) : (xr_v ad v).category = v.category := by
  cases v <;> rfl
theorem xr_v_cats (ad : Nat → Nat) (vs : List Value) : (vs.map (xr_v ad)).map Value.category = vs.map Value.category := by
  rw [List.map_map]
  exact List.map_congr_left (fun v _ => xr_v_cat ad v)
theorem xr_w_at {g : xr_G} {ad : Nat → Nat} {ws : xr_W} {j : Nat} {c : xr_C} (h : ws[j]? = some c) : (xr_w g ad ws)[j]? = some (ad (j + 2), xr_c g ad c) := by
  unfold xr_w
  rw [List.getElem?_mapIdx, h]
  rfl
theorem xr_w_set (g : xr_G) (ad : Nat → Nat) (ws : xr_W) (j : Nat) (c : xr_C) : xr_w g ad (ws.set j c) = (xr_w g ad ws).set j (ad (j + 2), xr_c g ad c) := by
  unfold xr_w
  rw [List.mapIdx_set]
theorem xr_get_mem {i : Nat} {v : Value} : ∀ {lv : List (Nat × Value)}, xr_get i lv = some v → (i, v) ∈ lv
  | [], h => by cases h
  | q :: r, h => by
    unfold xr_get at h
    split at h
    · rename_i hq
      cases h
      rw [← hq]
      exact List.mem_cons_self
    · exact List.mem_cons_of_mem _ (xr_get_mem h)
theorem xr_ins_mem {i : Nat} {v : Value} {q : Nat × Value} : ∀ {lv : List (Nat × Value)}, q ∈ xr_ins i v lv → q ∈ (i, v) :: lv
  | [], h => h
  | z :: r, h => by
    unfold xr_ins at h
    split at h
    · rcases List.mem_cons.mp h with h | h
      · rw [h]; exact List.mem_cons_of_mem _ List.mem_cons_self
      · rcases List.mem_cons.mp (xr_ins_mem h) with h | h
        · rw [h]; exact List.mem_cons_self
        · exact List.mem_cons_of_mem _ (List.mem_cons_of_mem _ h)
    · exact h
theorem xr_keep_mem {live : Option (List Nat)} {lv : List (Nat × Value)} {q : Nat × Value} (h : q ∈ xr_keep live lv) : q ∈ lv := by
  cases live with
  | none => exact h
  | some ks => exact (List.mem_filter.mp h).1
theorem xr_l_mem {ad : Nat → Nat} {lv lv' : List (Nat × Value)} (h : ∀ q ∈ lv', q ∈ lv) : ∀ q ∈ xr_l ad lv', q ∈ xr_l ad lv := by
  intro q hq
  obtain ⟨z, hz, rfl⟩ := List.mem_map.mp hq
  exact List.mem_map.mpr ⟨z, h z hz, rfl⟩
theorem xr_has_of {ls : Array Slot} {n : Nat} {l l' : List (Nat × Value)} (h : lv_has ls n l) (hs : ∀ q ∈ l', q ∈ l) : lv_has ls n l' := ⟨h.1, h.2.1, fun q hq => h.2.2 q (hs q hq)⟩
theorem xr_has_get {ls : Array Slot} {n i : Nat} {v : Value} {ad : Nat → Nat} {lv : List (Nat × Value)} (h : lv_has ls n (xr_l ad lv)) (hg : xr_get i lv = some v) : ls[i]? = some (.val (xr_v ad v)) :=
  h.2.2 (i, xr_v ad v) (List.mem_map.mpr ⟨(i, v), xr_get_mem hg, rfl⟩)
theorem xr_l_filter (ad : Nat → Nat) (lv : List (Nat × Value)) (p : Nat → Nat → Bool) : (xr_l ad lv).filter (fun q => p q.1 q.2.category) = xr_l ad (lv.filter (fun q => p q.1 q.2.category)) := by
  unfold xr_l
  rw [List.filter_map]
  congr 1
  apply List.filter_congr
  intro q _
  show p q.1 (xr_v ad q.2).category = _
  rw [xr_v_cat]
theorem xr_has_put {ls' : Array Slot} {n i : Nat} {v : Value} {ad : Nat → Nat} {lv : List (Nat × Value)} (h : lv_has ls' n ((i, xr_v ad v) :: (xr_l ad lv).filter (fun q => !(q.1 == i) && !(q.1 + 1 == i && q.2.category == 2)))) : lv_has ls' n (xr_l ad (xr_put i v lv)) := by
  refine xr_has_of h ?_
  rw [xr_l_filter ad lv (fun a b => !(a == i) && !(a + 1 == i && b == 2))]
  intro q hq
  obtain ⟨z, hz, rfl⟩ := List.mem_map.mp hq
  rcases List.mem_cons.mp (xr_ins_mem hz) with h | h
  · rw [h]; exact List.mem_cons_self
  · exact List.mem_cons_of_mem _ (List.mem_map.mpr ⟨z, h, rfl⟩)
theorem xr_has_putL {ls' : Array Slot} {n i : Nat} {v : Value} {ad : Nat → Nat} {lv : List (Nat × Value)} (h : lv_has ls' n ((i, xr_v ad v) :: (xr_l ad lv).filter (fun q => !(q.1 == i) && (!(q.1 == i + 1) && !(q.1 + 1 == i && q.2.category == 2))))) : lv_has ls' n (xr_l ad (xr_putL i v lv)) := by
  refine xr_has_of h ?_
  rw [xr_l_filter ad lv (fun a b => !(a == i) && (!(a == i + 1) && !(a + 1 == i && b == 2)))]
  intro q hq
  obtain ⟨z, hz, rfl⟩ := List.mem_map.mp hq
  rcases List.mem_cons.mp (xr_ins_mem hz) with h | h
  · rw [h]; exact List.mem_cons_self
  · exact List.mem_cons_of_mem _ (List.mem_map.mpr ⟨z, h, rfl⟩)
theorem xr_find_mem {pc : Nat} : ∀ {C : List xr_E} {q : Nat × Instr × Nat × Nat × Value × List (Int32 × Nat) × Option (List Nat)}, xr_find pc C = some q → (pc, q) ∈ C
  | [], _, h => by cases h
  | e :: r, q, h => by
    unfold xr_find at h
    split at h
    · rename_i he
      cases h
      rw [← he]
      exact List.mem_cons_self
    · exact List.mem_cons_of_mem _ (xr_find_mem h)
theorem xr_in_of {i : Int32} {n : Nat} (h : xr_in i n = true) : vp_in i n := by
  unfold xr_in at h
  rw [Bool.and_eq_true, Bool.not_eq_true', decide_eq_false_iff_not, decide_eq_true_eq] at h
  intro hc
  rcases hc with hc | hc
  · exact h.1 hc
  · omega
/-- what indexOf of the text ITRLME needs: the names of the library's methods, and their words -/
def xi_ix1 : MethodName := ⟨"java/lang/String", "indexOf", "(I)I"⟩
def xi_ix2 : MethodName := ⟨"java/lang/String", "indexOf", "(II)I"⟩
def xi_lat : MethodName := ⟨"java/lang/String", "isLatin1", "()Z"⟩
def xi_len : MethodName := ⟨"java/lang/String", "length", "()I"⟩
def xi_cod : MethodName := ⟨"java/lang/String", "coder", "()B"⟩
def xi_l1 : MethodName := ⟨"java/lang/StringLatin1", "indexOf", "([BIII)I"⟩
def xi_can : MethodName := ⟨"java/lang/StringLatin1", "canEncode", "(I)Z"⟩
def xi_chr : MethodName := ⟨"java/lang/StringLatin1", "indexOfChar", "([BIII)I"⟩
def xi_T : List Cond := [.initialized "java/lang/String",
  .initialized "java/lang/StringLatin1",
  .initialized "java/lang/Math",
  .instanceMethod xi_ix1,
  .selects "java/lang/String" xi_ix1 xi_ix1,
  .code xi_ix1 prog_19_method_79_code 2 (some .int),
  .methodLink "java/lang/String" 633 xi_ix2,
  .instanceMethod xi_ix2,
  .selects "java/lang/String" xi_ix2 xi_ix2,
  .code xi_ix2 prog_19_method_80_code 3 (some .int),
  .methodLink "java/lang/String" 492 xi_lat,
  .instanceMethod xi_lat,
  .selects "java/lang/String" xi_lat xi_lat,
  .code xi_lat prog_19_method_154_code 1 (some .boolean),
  .methodLink "java/lang/String" 505 xi_len,
  .instanceMethod xi_len,
  .selects "java/lang/String" xi_len xi_len,
  .code xi_len prog_19_method_54_code 1 (some .int),
  .methodLink "java/lang/String" 335 xi_cod,
  .instanceMethod xi_cod,
  .selects "java/lang/String" xi_cod xi_cod,
  .code xi_cod prog_19_method_152_code 1 (some .byte),
  .methodLink "java/lang/String" 637 xi_l1,
  .static xi_l1,
  .code xi_l1 prog_20_method_22_code 4 (some .int),
  .methodLink "java/lang/StringLatin1" 88 xi_can,
  .static xi_can,
  .code xi_can prog_20_method_4_code 1 (some .boolean),
  .methodLink "java/lang/StringLatin1" 95 xi_chr,
  .static xi_chr,
  .code xi_chr prog_20_method_23_code 6 (some .int),
  .methodLink "java/lang/StringLatin1" 92 Lib.Math.max.name,
  .static Lib.Math.max.name,
  .code Lib.Math.max.name Lib.Math.max.code 2 (some .int),
  .methodLink "java/lang/StringLatin1" 38 Lib.Math.min.name,
  .static Lib.Math.min.name,
  .code Lib.Math.min.name Lib.Math.min.code 2 (some .int),
  .fieldLink "java/lang/String" 38 "java/lang/String" "COMPACT_STRINGS" "Z",
  .fieldLink "java/lang/String" 15 "java/lang/String" "coder" "B",
  .fieldLink "java/lang/String" 9 "java/lang/String" "value" "[B"]
def xr_ixs (P : xr_P) (M k : Nat) : Prop := Cond.methodLink (xp_own P M) k xi_ix1 ∈ xp_T P ∧ (∀ w ∈ xi_T, w ∈ xp_T P) ∧ 4 ≤ (xp_rm P M).frames ∧ 91 ≤ (xp_rm P M).locals
