/-! side conditions of a row -/
def xr_tsw (pc : Nat) (lo hi : Int) (offs : Array Int) (tab : List (Int32 × Nat)) (d : Nat) : Prop :=
  ∀ (x : Int32), ((x.toInt < lo ∨ hi < x.toInt) ∧ ∀ {ρ : Type} (k : Nat → Option ρ), xr_sw x k d tab = k d) ∨ (¬ x.toInt < lo ∧ ¬ hi < x.toInt ∧ ∃ (off : Int) (t : Nat), offs[(x.toInt - lo).toNat]? = some off ∧ (pc : Int) + off = (t : Int) ∧ ∀ {ρ : Type} (k : Nat → Option ρ), xr_sw x k d tab = k t)
/-- the field b of the class a, linked at k -/
def xr_fd (P : xr_P) (M k a b : Nat) : Prop := ∃ (C : String) (T : u_T) (N : Nat), (xp_cl P)[a]? = some (C, T, N) ∧ b < N ∧ (∀ w ∈ u_ws C T N, w ∈ xp_T P) ∧
  (Cond.fieldLink (xp_own P M) k (T b).1 (T b).2.1 (T b).2.2.1 ∈ xp_T P ∨ ∃ host : String, Cond.fieldLinkNest (xp_own P M) k (T b).1 (T b).2.1 (T b).2.2.1 host ∈ xp_T P)
def xr_fp (P : xr_P) (M k a b : Nat) : Prop := ∃ (C : String) (T : u_T) (N : Nat) (ty : Nat → FieldType), (xp_cl P)[a]? = some (C, T, N) ∧ b < N ∧ (∀ w ∈ u_ws C T N, w ∈ xp_T P) ∧ (∀ j, j < N → parseFieldDescriptor (T j).2.2.1 = some (ty j)) ∧ ty b = (xp_t P).2.2 a b ∧
  (∀ i, i < N → ∀ j, j < N → i ≠ j → (T i).2.1 ≠ (T j).2.1) ∧
  ((Cond.fieldLink (xp_own P M) k (T b).1 (T b).2.1 (T b).2.2.1 ∈ xp_T P ∧ ((T b).2.2.2 = false ∨ ((T b).2.2.2 = true ∧ (xp_y P M).name = "<init>" ∧ (T b).1 = xp_own P M))) ∨ ((T b).2.2.2 = false ∧ ∃ host : String, Cond.fieldLinkNest (xp_own P M) k (T b).1 (T b).2.1 (T b).2.2.1 host ∈ xp_T P))
def xr_nw (P : xr_P) (M k a : Nat) : Prop := ∃ (C : String) (T : u_T) (N : Nat) (ty : Nat → FieldType), (xp_cl P)[a]? = some (C, T, N) ∧ (∀ w ∈ u_ws C T N, w ∈ xp_T P) ∧ (∀ j, j < N → parseFieldDescriptor (T j).2.2.1 = some (ty j)) ∧ ((xp_t P).1 a).length = N ∧ (∀ ad : Nat → Nat, ((xp_t P).1 a).map (xr_v ad) = (xp_t P).1 a) ∧ (∀ j, j < N → defaultValue (ty j) = vp_V ((xp_t P).1 a) j) ∧
  Cond.classLink (xp_own P M) k C ∈ xp_T P ∧ Cond.instantiable C N ∈ xp_T P ∧ Cond.initialized C ∈ xp_T P
/-- throw new E("text") at pc -/
def xr_th (P : xr_P) (M pc k a : Nat) : Prop := ∃ (text : String) (names : List String) (is ic : Nat), Bundle.fit ((xp_t P).2.1 a) = true ∧ (∀ n ∈ names, Bundle.fit n = true) ∧ Cond.classLink (xp_own P M) k ((xp_t P).2.1 a) ∈ xp_T P ∧ Cond.initialized ((xp_t P).2.1 a) ∈ xp_T P ∧ (xp_own P M, is, text) ∈ xp_s P ∧
  (∀ w ∈ Bundle.ownAtoms (xp_own P M) ic ((xp_t P).2.1 a) names, w ∈ xp_T P ∨ w ∈ xp_z P) ∧
  decode (xp_cd P M) (pc + 3) = .ok (.dup, 1) ∧ decode (xp_cd P M) (pc + 4) = .ok (.ldc is, 2) ∧ decode (xp_cd P M) (pc + 6) = .ok (.invokespecial ic, 3) ∧ decode (xp_cd P M) (pc + 9) = .ok (.athrow, 1) ∧
  names.length + 3 < (xp_rm P M).frames ∧ 13 * (names.length + 1) + 43 ≤ (xp_rm P M).locals
/-- the callee's room fits -/
def xr_rf (P : xr_P) (M a : Nat) : Prop := (xp_rm P a).frames + 1 ≤ (xp_rm P M).frames ∧ 8 + (xp_ml P a + 11) + (xp_rm P a).locals ≤ (xp_rm P M).locals
def xr_nd (P : xr_P) (a b : Nat) : Prop := (xp_y P a).cls ≠ "java/lang/invoke/MethodHandle" ∧ (xp_y P a).cls ≠ "java/lang/invoke/VarHandle" ∧ (parseMethodDescriptor (xp_y P a).desc).map (fun d => d.parameters.length) = some b
def xr_rl (P : xr_P) (M : Nat) : Prop := 1 ≤ (xp_rm P M).frames ∧ 8 + 20 ≤ (xp_rm P M).locals
/-- a call at k of the method a with b arguments: u 0 invokevirtual, 1 invokespecial, 2 invokestatic -/
def xr_cs (P : xr_P) (M u k a b : Nat) (v : Value) : Prop :=
  (∃ n : Nat, v = .retAddr n ∧ a < xp_N P ∧ xr_rf P M a ∧ Cond.initialized (xp_y P a).cls ∈ xp_T P ∧
    ((u = 0 ∧ n = 0 ∧ xp_hh P a = [] ∧ (∃ b' : Nat, b = b' + 1 ∧ xr_nd P a b') ∧ (∃ (T : u_T) (N : Nat), (xp_cl P)[(xp_I P a).2.2.2.1]? = some ((xp_y P a).cls, T, N)) ∧ Cond.methodLink (xp_own P M) k (xp_y P a) ∈ xp_T P ∧ Cond.instanceMethod (xp_y P a) ∈ xp_T P ∧ Cond.selects (xp_y P a).cls (xp_y P a) (xp_y P a) ∈ xp_T P) ∨
     (u = 0 ∧ n = 1 ∧ xp_hh P a = [] ∧ (∃ b' : Nat, b = b' + 1 ∧ xr_nd P a b') ∧ (∃ (T : u_T) (N : Nat), (xp_cl P)[(xp_I P a).2.2.2.1]? = some ((xp_y P a).cls, T, N)) ∧ (∃ host : String, Cond.methodLinkNest (xp_own P M) k (xp_y P a) host ∈ xp_z P) ∧ Cond.instanceMethod (xp_y P a) ∈ xp_T P ∧ Cond.selects (xp_y P a).cls (xp_y P a) (xp_y P a) ∈ xp_T P) ∨
     (u = 2 ∧ n = 2 ∧ xp_hh P a = [] ∧ xr_nd P a b ∧ Cond.methodLink (xp_own P M) k (xp_y P a) ∈ xp_T P ∧ Cond.static (xp_y P a) ∈ xp_T P) ∨
     (u = 2 ∧ n = 3 ∧ xp_hh P a = [] ∧ xr_nd P a b ∧ (∃ host : String, Cond.methodLinkNest (xp_own P M) k (xp_y P a) host ∈ xp_z P) ∧ Cond.static (xp_y P a) ∈ xp_T P) ∨
     (u = 1 ∧ n = 4 ∧ xp_hh P a = [] ∧ xp_rt P a = none ∧ (∃ b' : Nat, b = b' + 1 ∧ xr_nd P a b') ∧ (xp_y P a).name = "<init>" ∧ Cond.methodLink (xp_own P M) k (xp_y P a) ∈ xp_T P ∧ Cond.instanceMethod (xp_y P a) ∈ xp_T P) ∨
     (u = 1 ∧ n = 5 ∧ xp_hh P a = [] ∧ xp_rt P a = none ∧ (∃ b' : Nat, b = b' + 1 ∧ xr_nd P a b') ∧ (xp_y P a).name = "<init>" ∧ (∃ host : String, Cond.methodLinkNest (xp_own P M) k (xp_y P a) host ∈ xp_z P) ∧ Cond.instanceMethod (xp_y P a) ∈ xp_T P) ∨
     (u = 2 ∧ n = 6 ∧ xp_hh P a ≠ [] ∧ xr_nd P a b ∧ Cond.methodLink (xp_own P M) k (xp_y P a) ∈ xp_T P ∧ Cond.static (xp_y P a) ∈ xp_T P))) ∨
  (xr_rl P M ∧
    ((u = 1 ∧ v = .int 1 ∧ Cond.methodLink (xp_own P M) k Lib.objectInit ∈ xp_T P ∧ Cond.instanceMethod Lib.objectInit ∈ xp_T P ∧ Cond.code Lib.objectInit ⟨#[0xb1]⟩ 1 none ∈ xp_T P) ∨
     (u = 2 ∧ v = .int 2 ∧ Cond.methodLink (xp_own P M) k Lib.Math.max.name ∈ xp_T P ∧ Cond.static Lib.Math.max.name ∈ xp_T P ∧ Cond.initialized "java/lang/Math" ∈ xp_T P ∧ Cond.code Lib.Math.max.name Lib.Math.max.code 2 (some .int) ∈ xp_T P) ∨
     (u = 2 ∧ v = .int 3 ∧ Cond.methodLink (xp_own P M) k arraycopyName ∈ xp_T P ∧ Cond.native arraycopyName ∈ xp_T P ∧ Cond.static arraycopyName ∈ xp_T P ∧ Cond.initialized "java/lang/System" ∈ xp_T P) ∨
     (u = 0 ∧ v = .int 4 ∧ xr_ixs P M k)))
def xr_sx (P : xr_P) (M pc len : Nat) (i : Instr) (a b : Nat) (v : Value) (tab : List (Int32 × Nat)) : Prop := match i with
  | .iconst n => len = 1 ∧ v = .int (Int32.ofInt n)
  | .bipush n => len = 2 ∧ v = .int (Int8.ofInt n).toInt32
  | .sipush n => len = 3 ∧ v = .int (Int16.ofInt n).toInt32
  | .lconst n => len = 1 ∧ v = .long (Int64.ofNat (n : Nat))
  | .ldc k => len = 2 ∧ ((∃ x : Int32, v = .int x ∧ Cond.constant (xp_own P M) k x ∈ xp_T P) ∨ (v = .ref 1 ∧ xp_x P = (xp_own P M, k)))
  | .ldc2_w k => len = 3 ∧ ∃ x : Int64, v = .long x ∧ Cond.constantLong (xp_own P M) k x ∈ xp_T P
  | .iload k => len = 2 ∧ k = a
  | .lload k => len = 2 ∧ k = a
  | .aload k => len = 2 ∧ k = a
  | .iload_n k => len = 1 ∧ (k : Nat) = a
  | .lload_n k => len = 1 ∧ (k : Nat) = a
  | .aload_n k => len = 1 ∧ (k : Nat) = a
  | .istore k => len = 2 ∧ k = a ∧ a < xp_ml P M
  | .astore k => len = 2 ∧ k = a ∧ a < xp_ml P M
  | .lstore k => len = 2 ∧ k = a ∧ a + 1 < xp_ml P M
  | .istore_n k => len = 1 ∧ (k : Nat) = a ∧ a < xp_ml P M
  | .astore_n k => len = 1 ∧ (k : Nat) = a ∧ a < xp_ml P M
  | .lstore_n k => len = 1 ∧ (k : Nat) = a ∧ a + 1 < xp_ml P M
  | .iinc k n => len = 3 ∧ k = a ∧ v = .int (Int32.ofInt n) ∧ a < xp_ml P M
  | .goto off => len = 3 ∧ (pc : Int) + off = (a : Int)
  | .ifCond _ off => len = 3 ∧ (pc : Int) + off = (a : Int)
  | .if_icmp _ off => len = 3 ∧ (pc : Int) + off = (a : Int)
  | .tableswitch d lo hi offs => (pc : Int) + d = (a : Int) ∧ xr_tsw pc lo hi offs tab a
  | .getfield k => len = 3 ∧ xr_fd P M k a b
  | .putfield k => len = 3 ∧ xr_fp P M k a b
  | .new k => len = 3 ∧ match b with
    | 0 => xr_nw P M k a
    | _ => xr_th P M pc k a
  | .newarray t => len = 2 ∧ a < 4 ∧ newarray.typeOf t = xt_at a ∧ Cond.arrayClass (xt_at a) ∈ xp_T P
  | .invokevirtual k => len = 3 ∧ xr_cs P M 0 k a b v
  | .invokespecial k => len = 3 ∧ xr_cs P M 1 k a b v
  | .invokestatic k => len = 3 ∧ xr_cs P M 2 k a b v
  | _ => len = 1
def xr_sd (P : xr_P) (M : Nat) (e : xr_E) : Prop := decode (xp_cd P M) e.1 = .ok (e.2.2.1, e.2.1) ∧ xr_sx P M e.1 e.2.1 e.2.2.1 e.2.2.2.1 e.2.2.2.2.1 e.2.2.2.2.2.1 e.2.2.2.2.2.2.1
/-- the handlers of the run are those of the table; the store of each -/
def xr_hk (P : xr_P) (M : Nat) (q : Nat × Nat × Nat × Nat × Nat × String) (h : Nat × Nat × Nat × Nat) : Prop :=
  h.1 = q.1 ∧ h.2.1 = q.2.1 ∧ h.2.2.1 = q.2.2.1 ∧ h.2.2.2 ≠ 0 ∧ Cond.classLink (xp_own P M) h.2.2.2 q.2.2.2.2.2 ∈ xp_T P ∧ Cond.castable q.2.2.2.2.2 q.2.2.2.2.2 ∈ xp_z P ∧ q.2.2.2.2.1 < xp_ml P M ∧
  ((q.2.2.2.1 = 1 ∧ ∃ k : Fin 4, (k : Nat) = q.2.2.2.2.1 ∧ decode (xp_cd P M) q.2.2.1 = .ok (.astore_n k, 1)) ∨ (q.2.2.2.1 = 2 ∧ decode (xp_cd P M) q.2.2.1 = .ok (.astore q.2.2.2.2.1, 2)))
/-- all rows of all methods hold -/
def xr_OK (P : xr_P) : Prop := (∀ w ∈ xp_T P, (w.onTables && w.keeps) = true ∨ ∃ ty, w = .arrayClass ty) ∧ ∀ M, M < xp_N P → (∀ e ∈ (xp_B P M).1, xr_sd P M e) ∧ plainName (xp_own P M) = true ∧ xp_hd P M ∈ xp_T P ∧ (xp_I P M).2.2.2.2.2.2 = xp_ml P M ∧
  (xp_I P M).2.2.2.2.2.1.length = (xp_hh P M).length ∧ (∀ (j : Nat) (q : Nat × Nat × Nat × Nat × Nat × String) (h : Nat × Nat × Nat × Nat), (xp_I P M).2.2.2.2.2.1[j]? = some q → (xp_hh P M)[j]? = some h → xr_hk P M q h) ∧
  ∀ (i j : Nat) (q z : Nat × Nat × Nat × Nat × Nat × String), i < j → (xp_I P M).2.2.2.2.2.1[i]? = some q → (xp_I P M).2.2.2.2.2.1[j]? = some z → q.2.2.2.2.2 ≠ z.2.2.2.2.2 → (z.2.2.2.2.2, q.2.2.2.2.2) ∈ xp_n P
section
variable {P : xr_P} {l : Launch} {g : xr_G} {M : Nat} {p : Program} {s : State} {m : MethodId} {args : Array Value} {meth : Method} {c : Code}
theorem xc_N (h : xr_Cx P l g M p s m args meth c) : M < xp_N P := h.1
theorem xc_st (h : xr_Cx P l g M p s m args meth c) : l.stackTraces = false := h.2.1
theorem xc_ex (h : xr_Cx P l g M p s m args meth c) : p.tables.exec = Jvm.exec := h.2.2.1
theorem xc_cd (h : xr_Cx P l g M p s m args meth c) : c.code = xp_cd P M := h.2.2.2.1
theorem xc_ml (h : xr_Cx P l g M p s m args meth c) : c.maxLocals = xp_ml P M := h.2.2.2.2.1
theorem xc_ow (h : xr_Cx P l g M p s m args meth c) : s.vm.findClass (xp_own P M) = some m.cls := h.2.2.2.2.2.1
theorem xc_ts (h : xr_Cx P l g M p s m args meth c) : ∀ w ∈ xp_T P, w.before args s = true := h.2.2.2.2.2.2.1
theorem xc_rt (h : xr_Cx P l g M p s m args meth c) : meth.sig.returnType = xp_rt P M := h.2.2.2.2.2.2.2.1
theorem xc_lk (h : xr_Cx P l g M p s m args meth c) : meth.locks = false := h.2.2.2.2.2.2.2.2.1
theorem xc_nm (h : xr_Cx P l g M p s m args meth c) : meth.name = (xp_y P M).name := h.2.2.2.2.2.2.2.2.2.1
theorem xc_tb (h : xr_Cx P l g M p s m args meth c) : c.exceptionTable.toList = tableOf (xp_hh P M) := h.2.2.2.2.2.2.2.2.2.2.1
theorem xc_fx (h : xr_Cx P l g M p s m args meth c) : xr_Fx P g s s.heap := h.2.2.2.2.2.2.2.2.2.2.2
theorem xc_zs (h : xr_Cx P l g M p s m args meth c) : ∀ w ∈ xp_z P, w.before args s = true := fun w hw => (xc_fx h).2.2.2.2.2.2 w hw args s (State.WarmedH.refl s) (fun _ _ => rfl)
end
section
variable {P : xr_P} {l : Launch} {g : xr_G} {M ce sl pc : Nat} {lv : List (Nat × Value)} {st rs : List Value} {ws : xr_W} {r : xr_R}
theorem xj_iconst {n : Int} {x : Int32} (hd : decode (xp_cd P M) pc = .ok (.iconst n, 1)) (hv : Int32.ofInt n = x) (h : xr_J P l g M ce sl (pc + 1) lv (.int x :: st) ws r) : xr_J P l g M ce sl pc lv st ws r :=
  fun p e s m args below meth c H locs ls ad ad0 n0 cx lo hl hA hS => lv_iconst (xc_ex cx) (xc_cd cx) hd hv (h p e s m args below meth c H locs ls ad ad0 n0 cx lo hl hA hS)
theorem xj_bipush {n : Int} {x : Int32} (hd : decode (xp_cd P M) pc = .ok (.bipush n, 2)) (hv : (Int8.ofInt n).toInt32 = x) (h : xr_J P l g M ce sl (pc + 2) lv (.int x :: st) ws r) : xr_J P l g M ce sl pc lv st ws r :=
  fun p e s m args below meth c H locs ls ad ad0 n0 cx lo hl hA hS => lv_bipush (xc_ex cx) (xc_cd cx) hd hv (h p e s m args below meth c H locs ls ad ad0 n0 cx lo hl hA hS)
theorem xj_sipush {n : Int} {x : Int32} (hd : decode (xp_cd P M) pc = .ok (.sipush n, 3)) (hv : (Int16.ofInt n).toInt32 = x) (h : xr_J P l g M ce sl (pc + 3) lv (.int x :: st) ws r) : xr_J P l g M ce sl pc lv st ws r :=
  fun p e s m args below meth c H locs ls ad ad0 n0 cx lo hl hA hS => lv_sipush (xc_ex cx) (xc_cd cx) hd hv (h p e s m args below meth c H locs ls ad ad0 n0 cx lo hl hA hS)
theorem xj_lconst {n : Fin 2} {x : Int64} (hd : decode (xp_cd P M) pc = .ok (.lconst n, 1)) (hv : Int64.ofNat (n : Nat) = x) (h : xr_J P l g M ce sl (pc + 1) lv (.long x :: st) ws r) : xr_J P l g M ce sl pc lv st ws r :=
  fun p e s m args below meth c H locs ls ad ad0 n0 cx lo hl hA hS => lv_lconst (xc_ex cx) (xc_cd cx) hd hv (h p e s m args below meth c H locs ls ad ad0 n0 cx lo hl hA hS)
theorem xj_iadd {x y : Int32} (hd : decode (xp_cd P M) pc = .ok (.iadd, 1))  (h : xr_J P l g M ce sl (pc + 1) lv (.int (x + y) :: rs) ws r) : xr_J P l g M ce sl pc lv (.int y :: .int x :: rs) ws r :=
  fun p e s m args below meth c H locs ls ad ad0 n0 cx lo hl hA hS => lv_iadd (xc_ex cx) (xc_cd cx) hd  (h p e s m args below meth c H locs ls ad ad0 n0 cx lo hl hA hS)
theorem xj_isub {x y : Int32} (hd : decode (xp_cd P M) pc = .ok (.isub, 1))  (h : xr_J P l g M ce sl (pc + 1) lv (.int (x - y) :: rs) ws r) : xr_J P l g M ce sl pc lv (.int y :: .int x :: rs) ws r :=
  fun p e s m args below meth c H locs ls ad ad0 n0 cx lo hl hA hS => lv_isub (xc_ex cx) (xc_cd cx) hd  (h p e s m args below meth c H locs ls ad ad0 n0 cx lo hl hA hS)
theorem xj_imul {x y : Int32} (hd : decode (xp_cd P M) pc = .ok (.imul, 1))  (h : xr_J P l g M ce sl (pc + 1) lv (.int (x * y) :: rs) ws r) : xr_J P l g M ce sl pc lv (.int y :: .int x :: rs) ws r :=
  fun p e s m args below meth c H locs ls ad ad0 n0 cx lo hl hA hS => lv_imul (xc_ex cx) (xc_cd cx) hd  (h p e s m args below meth c H locs ls ad ad0 n0 cx lo hl hA hS)
theorem xj_iand {x y : Int32} (hd : decode (xp_cd P M) pc = .ok (.iand, 1))  (h : xr_J P l g M ce sl (pc + 1) lv (.int (x &&& y) :: rs) ws r) : xr_J P l g M ce sl pc lv (.int y :: .int x :: rs) ws r :=
  fun p e s m args below meth c H locs ls ad ad0 n0 cx lo hl hA hS => lv_iand (xc_ex cx) (xc_cd cx) hd  (h p e s m args below meth c H locs ls ad ad0 n0 cx lo hl hA hS)
theorem xj_idiv {x y : Int32} (hd : decode (xp_cd P M) pc = .ok (.idiv, 1)) (hne : ¬ y = 0) (h : xr_J P l g M ce sl (pc + 1) lv (.int (x / y) :: rs) ws r) : xr_J P l g M ce sl pc lv (.int y :: .int x :: rs) ws r :=
  fun p e s m args below meth c H locs ls ad ad0 n0 cx lo hl hA hS => lv_idiv (xc_ex cx) (xc_cd cx) hd hne (h p e s m args below meth c H locs ls ad ad0 n0 cx lo hl hA hS)
theorem xj_irem {x y : Int32} (hd : decode (xp_cd P M) pc = .ok (.irem, 1)) (hne : ¬ y = 0) (h : xr_J P l g M ce sl (pc + 1) lv (.int (x - x / y * y) :: rs) ws r) : xr_J P l g M ce sl pc lv (.int y :: .int x :: rs) ws r :=
  fun p e s m args below meth c H locs ls ad ad0 n0 cx lo hl hA hS => lv_irem (xc_ex cx) (xc_cd cx) hd hne (h p e s m args below meth c H locs ls ad ad0 n0 cx lo hl hA hS)
theorem xj_ladd {x y : Int64} (hd : decode (xp_cd P M) pc = .ok (.ladd, 1))  (h : xr_J P l g M ce sl (pc + 1) lv (.long (x + y) :: rs) ws r) : xr_J P l g M ce sl pc lv (.long y :: .long x :: rs) ws r :=
  fun p e s m args below meth c H locs ls ad ad0 n0 cx lo hl hA hS => lv_ladd (xc_ex cx) (xc_cd cx) hd  (h p e s m args below meth c H locs ls ad ad0 n0 cx lo hl hA hS)
theorem xj_land {x y : Int64} (hd : decode (xp_cd P M) pc = .ok (.land, 1))  (h : xr_J P l g M ce sl (pc + 1) lv (.long (x &&& y) :: rs) ws r) : xr_J P l g M ce sl pc lv (.long y :: .long x :: rs) ws r :=
  fun p e s m args below meth c H locs ls ad ad0 n0 cx lo hl hA hS => lv_land (xc_ex cx) (xc_cd cx) hd  (h p e s m args below meth c H locs ls ad ad0 n0 cx lo hl hA hS)
theorem xj_lor {x y : Int64} (hd : decode (xp_cd P M) pc = .ok (.lor, 1))  (h : xr_J P l g M ce sl (pc + 1) lv (.long (x ||| y) :: rs) ws r) : xr_J P l g M ce sl pc lv (.long y :: .long x :: rs) ws r :=
  fun p e s m args below meth c H locs ls ad ad0 n0 cx lo hl hA hS => lv_lor (xc_ex cx) (xc_cd cx) hd  (h p e s m args below meth c H locs ls ad ad0 n0 cx lo hl hA hS)
theorem xj_lxor {x y : Int64} (hd : decode (xp_cd P M) pc = .ok (.lxor, 1))  (h : xr_J P l g M ce sl (pc + 1) lv (.long (x ^^^ y) :: rs) ws r) : xr_J P l g M ce sl pc lv (.long y :: .long x :: rs) ws r :=
  fun p e s m args below meth c H locs ls ad ad0 n0 cx lo hl hA hS => lv_lxor (xc_ex cx) (xc_cd cx) hd  (h p e s m args below meth c H locs ls ad ad0 n0 cx lo hl hA hS)
theorem xj_lshl {x : Int64} {y : Int32} (hd : decode (xp_cd P M) pc = .ok (.lshl, 1))  (h : xr_J P l g M ce sl (pc + 1) lv (.long (x <<< (y.toInt64 &&& 63)) :: rs) ws r) : xr_J P l g M ce sl pc lv (.int y :: .long x :: rs) ws r :=
  fun p e s m args below meth c H locs ls ad ad0 n0 cx lo hl hA hS => lv_lshl (xc_ex cx) (xc_cd cx) hd rfl (h p e s m args below meth c H locs ls ad ad0 n0 cx lo hl hA hS)
theorem xj_lshr {x : Int64} {y : Int32} (hd : decode (xp_cd P M) pc = .ok (.lshr, 1))  (h : xr_J P l g M ce sl (pc + 1) lv (.long (x >>> (y.toInt64 &&& 63)) :: rs) ws r) : xr_J P l g M ce sl pc lv (.int y :: .long x :: rs) ws r :=
  fun p e s m args below meth c H locs ls ad ad0 n0 cx lo hl hA hS => lv_lshr (xc_ex cx) (xc_cd cx) hd rfl (h p e s m args below meth c H locs ls ad ad0 n0 cx lo hl hA hS)
theorem xj_lushr {x : Int64} {y : Int32} (hd : decode (xp_cd P M) pc = .ok (.lushr, 1))  (h : xr_J P l g M ce sl (pc + 1) lv (.long ((x.toUInt64 >>> (y.toInt64.toUInt64 &&& Int64.toUInt64 63)).toInt64) :: rs) ws r) : xr_J P l g M ce sl pc lv (.int y :: .long x :: rs) ws r :=
  fun p e s m args below meth c H locs ls ad ad0 n0 cx lo hl hA hS => lv_lushr (xc_ex cx) (xc_cd cx) hd rfl (h p e s m args below meth c H locs ls ad ad0 n0 cx lo hl hA hS)
theorem xj_ineg {x : Int32} (hd : decode (xp_cd P M) pc = .ok (.ineg, 1))  (h : xr_J P l g M ce sl (pc + 1) lv (.int (-x) :: rs) ws r) : xr_J P l g M ce sl pc lv (.int x :: rs) ws r :=
  fun p e s m args below meth c H locs ls ad ad0 n0 cx lo hl hA hS => lv_ineg (xc_ex cx) (xc_cd cx) hd  (h p e s m args below meth c H locs ls ad ad0 n0 cx lo hl hA hS)
theorem xj_i2l {x : Int32} (hd : decode (xp_cd P M) pc = .ok (.i2l, 1))  (h : xr_J P l g M ce sl (pc + 1) lv (.long x.toInt64 :: rs) ws r) : xr_J P l g M ce sl pc lv (.int x :: rs) ws r :=
  fun p e s m args below meth c H locs ls ad ad0 n0 cx lo hl hA hS => lv_i2l (xc_ex cx) (xc_cd cx) hd rfl (h p e s m args below meth c H locs ls ad ad0 n0 cx lo hl hA hS)
theorem xj_l2i {x : Int64} (hd : decode (xp_cd P M) pc = .ok (.l2i, 1))  (h : xr_J P l g M ce sl (pc + 1) lv (.int x.toInt32 :: rs) ws r) : xr_J P l g M ce sl pc lv (.long x :: rs) ws r :=
  fun p e s m args below meth c H locs ls ad ad0 n0 cx lo hl hA hS => lv_l2i (xc_ex cx) (xc_cd cx) hd rfl (h p e s m args below meth c H locs ls ad ad0 n0 cx lo hl hA hS)
theorem xj_i2c {x : Int32} (hd : decode (xp_cd P M) pc = .ok (.i2c, 1))  (h : xr_J P l g M ce sl (pc + 1) lv (.int (x.toUInt32 % 65536).toInt32 :: rs) ws r) : xr_J P l g M ce sl pc lv (.int x :: rs) ws r :=
  fun p e s m args below meth c H locs ls ad ad0 n0 cx lo hl hA hS => lv_i2c (xc_ex cx) (xc_cd cx) hd rfl (h p e s m args below meth c H locs ls ad ad0 n0 cx lo hl hA hS)
theorem xj_lcmp {x y : Int64} (hd : decode (xp_cd P M) pc = .ok (.lcmp, 1))  (h : xr_J P l g M ce sl (pc + 1) lv (.int (lg_cmp x y) :: rs) ws r) : xr_J P l g M ce sl pc lv (.long y :: .long x :: rs) ws r :=
  fun p e s m args below meth c H locs ls ad ad0 n0 cx lo hl hA hS => W.lcmp (xc_ex cx) (xc_cd cx) hd (h p e s m args below meth c H locs ls ad ad0 n0 cx lo hl hA hS)
theorem xj_dup {x : Value} (hd : decode (xp_cd P M) pc = .ok (.dup, 1)) (hc : x.category = 1) (h : xr_J P l g M ce sl (pc + 1) lv (x :: x :: rs) ws r) : xr_J P l g M ce sl pc lv (x :: rs) ws r :=
  fun p e s m args below meth c H locs ls ad ad0 n0 cx lo hl hA hS => lv_dup (xc_ex cx) (xc_cd cx) hd ((xr_v_cat ad x).trans hc) (h p e s m args below meth c H locs ls ad ad0 n0 cx lo hl hA hS)
theorem xj_pop {x : Value} (hd : decode (xp_cd P M) pc = .ok (.pop, 1)) (hc : x.category = 1) (h : xr_J P l g M ce sl (pc + 1) lv rs ws r) : xr_J P l g M ce sl pc lv (x :: rs) ws r :=
  fun p e s m args below meth c H locs ls ad ad0 n0 cx lo hl hA hS => lv_pop (xc_ex cx) (xc_cd cx) hd ((xr_v_cat ad x).trans hc) (h p e s m args below meth c H locs ls ad ad0 n0 cx lo hl hA hS)
theorem xj_dup2 {x y : Value} (hd : decode (xp_cd P M) pc = .ok (.dup2, 1)) (hc : x.category = 1) (hc2 : y.category = 1) (h : xr_J P l g M ce sl (pc + 1) lv (x :: y :: x :: y :: rs) ws r) : xr_J P l g M ce sl pc lv (x :: y :: rs) ws r :=
  fun p e s m args below meth c H locs ls ad ad0 n0 cx lo hl hA hS => lv_dup2_11 (xc_ex cx) (xc_cd cx) hd ((xr_v_cat ad x).trans hc) ((xr_v_cat ad y).trans hc2) (h p e s m args below meth c H locs ls ad ad0 n0 cx lo hl hA hS)
theorem xj_iload {k : Nat} {x : Int32} (hd : decode (xp_cd P M) pc = .ok (.iload k, 2)) (hg : xr_get k lv = some (.int x)) (h : xr_J P l g M ce sl (pc + 2) lv (.int x :: st) ws r) : xr_J P l g M ce sl pc lv st ws r :=
  fun p e s m args below meth c H locs ls ad ad0 n0 cx lo hl hA hS => lv_iload (xc_ex cx) (xc_cd cx) hd (xr_has_get hl hg) (h p e s m args below meth c H locs ls ad ad0 n0 cx lo hl hA hS)
theorem xj_iload_n {k : Fin 4} {a : Nat} {x : Int32} (hd : decode (xp_cd P M) pc = .ok (.iload_n k, 1)) (hk : (k : Nat) = a) (hg : xr_get a lv = some (.int x)) (h : xr_J P l g M ce sl (pc + 1) lv (.int x :: st) ws r) : xr_J P l g M ce sl pc lv st ws r :=
  fun p e s m args below meth c H locs ls ad ad0 n0 cx lo hl hA hS => lv_iload_n (xc_ex cx) (xc_cd cx) hd hk (xr_has_get hl hg) (h p e s m args below meth c H locs ls ad ad0 n0 cx lo hl hA hS)
theorem xj_istore {a : Nat} {x : Int32} (hd : decode (xp_cd P M) pc = .ok (.istore a, 2)) (hn : a < xp_ml P M) (h : xr_J P l g M ce sl (pc + 2) (xr_put a (.int x) lv) rs ws r) : xr_J P l g M ce sl pc lv (.int x :: rs) ws r :=
  fun p e s m args below meth c H locs ls ad ad0 n0 cx lo hl hA hS => lv_istore (xc_ex cx) (xc_cd cx) hd hl hn rfl (fun ls' hl' => h p e s m args below meth c H locs ls' ad ad0 n0 cx lo (xr_has_put (v := .int x) hl') hA hS)
theorem xj_istore_n {k : Fin 4} {a : Nat} {x : Int32} (hd : decode (xp_cd P M) pc = .ok (.istore_n k, 1)) (hk : (k : Nat) = a) (hn : a < xp_ml P M) (h : xr_J P l g M ce sl (pc + 1) (xr_put a (.int x) lv) rs ws r) : xr_J P l g M ce sl pc lv (.int x :: rs) ws r :=
  fun p e s m args below meth c H locs ls ad ad0 n0 cx lo hl hA hS => lv_istore_n (xc_ex cx) (xc_cd cx) hd hk hl hn rfl (fun ls' hl' => h p e s m args below meth c H locs ls' ad ad0 n0 cx lo (xr_has_put (v := .int x) hl') hA hS)
theorem xj_lload {k : Nat} {x : Int64} (hd : decode (xp_cd P M) pc = .ok (.lload k, 2)) (hg : xr_get k lv = some (.long x)) (h : xr_J P l g M ce sl (pc + 2) lv (.long x :: st) ws r) : xr_J P l g M ce sl pc lv st ws r :=
  fun p e s m args below meth c H locs ls ad ad0 n0 cx lo hl hA hS => lv_lload (xc_ex cx) (xc_cd cx) hd (xr_has_get hl hg) (h p e s m args below meth c H locs ls ad ad0 n0 cx lo hl hA hS)
theorem xj_lload_n {k : Fin 4} {a : Nat} {x : Int64} (hd : decode (xp_cd P M) pc = .ok (.lload_n k, 1)) (hk : (k : Nat) = a) (hg : xr_get a lv = some (.long x)) (h : xr_J P l g M ce sl (pc + 1) lv (.long x :: st) ws r) : xr_J P l g M ce sl pc lv st ws r :=
  fun p e s m args below meth c H locs ls ad ad0 n0 cx lo hl hA hS => lv_lload_n (xc_ex cx) (xc_cd cx) hd hk (xr_has_get hl hg) (h p e s m args below meth c H locs ls ad ad0 n0 cx lo hl hA hS)
theorem xj_lstore {a : Nat} {x : Int64} (hd : decode (xp_cd P M) pc = .ok (.lstore a, 2)) (hn : a + 1 < xp_ml P M) (h : xr_J P l g M ce sl (pc + 2) (xr_putL a (.long x) lv) rs ws r) : xr_J P l g M ce sl pc lv (.long x :: rs) ws r :=
  fun p e s m args below meth c H locs ls ad ad0 n0 cx lo hl hA hS => lv_lstore (xc_ex cx) (xc_cd cx) hd hl hn rfl (fun ls' hl' => h p e s m args below meth c H locs ls' ad ad0 n0 cx lo (xr_has_putL (v := .long x) hl') hA hS)
theorem xj_lstore_n {k : Fin 4} {a : Nat} {x : Int64} (hd : decode (xp_cd P M) pc = .ok (.lstore_n k, 1)) (hk : (k : Nat) = a) (hn : a + 1 < xp_ml P M) (h : xr_J P l g M ce sl (pc + 1) (xr_putL a (.long x) lv) rs ws r) : xr_J P l g M ce sl pc lv (.long x :: rs) ws r :=
  fun p e s m args below meth c H locs ls ad ad0 n0 cx lo hl hA hS => lv_lstore_n (xc_ex cx) (xc_cd cx) hd hk hl hn rfl (fun ls' hl' => h p e s m args below meth c H locs ls' ad ad0 n0 cx lo (xr_has_putL (v := .long x) hl') hA hS)
theorem xj_aload {k : Nat} {x : Nat} (hd : decode (xp_cd P M) pc = .ok (.aload k, 2)) (hg : xr_get k lv = some (.ref x)) (h : xr_J P l g M ce sl (pc + 2) lv (.ref x :: st) ws r) : xr_J P l g M ce sl pc lv st ws r :=
  fun p e s m args below meth c H locs ls ad ad0 n0 cx lo hl hA hS => lv_aload (xc_ex cx) (xc_cd cx) hd (xr_has_get hl hg) (h p e s m args below meth c H locs ls ad ad0 n0 cx lo hl hA hS)
theorem xj_aload_n {k : Fin 4} {a : Nat} {x : Nat} (hd : decode (xp_cd P M) pc = .ok (.aload_n k, 1)) (hk : (k : Nat) = a) (hg : xr_get a lv = some (.ref x)) (h : xr_J P l g M ce sl (pc + 1) lv (.ref x :: st) ws r) : xr_J P l g M ce sl pc lv st ws r :=
  fun p e s m args below meth c H locs ls ad ad0 n0 cx lo hl hA hS => lv_aload_n (xc_ex cx) (xc_cd cx) hd hk (xr_has_get hl hg) (h p e s m args below meth c H locs ls ad ad0 n0 cx lo hl hA hS)
theorem xj_astore {a : Nat} {x : Nat} (hd : decode (xp_cd P M) pc = .ok (.astore a, 2)) (hn : a < xp_ml P M) (h : xr_J P l g M ce sl (pc + 2) (xr_put a (.ref x) lv) rs ws r) : xr_J P l g M ce sl pc lv (.ref x :: rs) ws r :=
  fun p e s m args below meth c H locs ls ad ad0 n0 cx lo hl hA hS => lv_astore (xc_ex cx) (xc_cd cx) hd hl hn rfl (fun ls' hl' => h p e s m args below meth c H locs ls' ad ad0 n0 cx lo (xr_has_put (v := .ref x) hl') hA hS)
theorem xj_astore_n {k : Fin 4} {a : Nat} {x : Nat} (hd : decode (xp_cd P M) pc = .ok (.astore_n k, 1)) (hk : (k : Nat) = a) (hn : a < xp_ml P M) (h : xr_J P l g M ce sl (pc + 1) (xr_put a (.ref x) lv) rs ws r) : xr_J P l g M ce sl pc lv (.ref x :: rs) ws r :=
  fun p e s m args below meth c H locs ls ad ad0 n0 cx lo hl hA hS => lv_astore_n (xc_ex cx) (xc_cd cx) hd hk hl hn rfl (fun ls' hl' => h p e s m args below meth c H locs ls' ad ad0 n0 cx lo (xr_has_put (v := .ref x) hl') hA hS)
theorem xj_iinc {a : Nat} {n : Int} {x : Int32} (hd : decode (xp_cd P M) pc = .ok (.iinc a n, 3)) (hg : xr_get a lv = some (.int x)) (hn : a < xp_ml P M) (h : xr_J P l g M ce sl (pc + 3) (xr_put a (.int (x + Int32.ofInt n)) lv) st ws r) : xr_J P l g M ce sl pc lv st ws r := by
  intro p e s m args below meth c H locs ls ad ad0 n0 cx lo hl hA hS
  have hm : (a, Value.int x) ∈ xr_l ad lv := List.mem_map.mpr ⟨(a, .int x), xr_get_mem hg, rfl⟩
  obtain ⟨j, hj⟩ := List.mem_iff_getElem?.mp hm
  exact lv_iinc (xc_ex cx) (xc_cd cx) hd hl hj rfl hn rfl (fun ls' hl' => h p e s m args below meth c H locs ls' ad ad0 n0 cx lo (xr_has_put (v := .int (x + Int32.ofInt n)) hl') hA hS)
theorem xj_goto {off : Int} {a : Nat} (hd : decode (xp_cd P M) pc = .ok (.goto off, 3)) (ht : (pc : Int) + off = (a : Int)) (h : xr_J P l g M ce sl a lv st ws r) : xr_J P l g M ce sl pc lv st ws r :=
  fun p e s m args below meth c H locs ls ad ad0 n0 cx lo hl hA hS => lv_goto (xc_ex cx) (xc_cd cx) hd ht (h p e s m args below meth c H locs ls ad ad0 n0 cx lo hl hA hS)
theorem xj_if_eq {off : Int} {a : Nat} {x : Int32} (hd : decode (xp_cd P M) pc = .ok (.ifCond .eq off, 3)) (ht : (pc : Int) + off = (a : Int)) (h1 : x = 0 → xr_J P l g M ce sl a lv rs ws r) (h2 : ¬ x = 0 → xr_J P l g M ce sl (pc + 3) lv rs ws r) : xr_J P l g M ce sl pc lv (.int x :: rs) ws r :=
  fun p e s m args below meth c H locs ls ad ad0 n0 cx lo hl hA hS => lv_if_eq (xc_ex cx) (xc_cd cx) hd ht (fun h => h1 h p e s m args below meth c H locs ls ad ad0 n0 cx lo hl hA hS) (fun h => h2 h p e s m args below meth c H locs ls ad ad0 n0 cx lo hl hA hS)
theorem xj_icmp_eq {off : Int} {a : Nat} {x y : Int32} (hd : decode (xp_cd P M) pc = .ok (.if_icmp .eq off, 3)) (ht : (pc : Int) + off = (a : Int)) (h1 : x = y → xr_J P l g M ce sl a lv rs ws r) (h2 : ¬ x = y → xr_J P l g M ce sl (pc + 3) lv rs ws r) : xr_J P l g M ce sl pc lv (.int y :: .int x :: rs) ws r :=
  fun p e s m args below meth c H locs ls ad ad0 n0 cx lo hl hA hS => lv_icmp_eq (xc_ex cx) (xc_cd cx) hd ht (fun h => h1 h p e s m args below meth c H locs ls ad ad0 n0 cx lo hl hA hS) (fun h => h2 h p e s m args below meth c H locs ls ad ad0 n0 cx lo hl hA hS)
theorem xj_if_ne {off : Int} {a : Nat} {x : Int32} (hd : decode (xp_cd P M) pc = .ok (.ifCond .ne off, 3)) (ht : (pc : Int) + off = (a : Int)) (h1 : ¬ x = 0 → xr_J P l g M ce sl a lv rs ws r) (h2 : x = 0 → xr_J P l g M ce sl (pc + 3) lv rs ws r) : xr_J P l g M ce sl pc lv (.int x :: rs) ws r :=
  fun p e s m args below meth c H locs ls ad ad0 n0 cx lo hl hA hS => lv_if_ne (xc_ex cx) (xc_cd cx) hd ht (fun h => h1 h p e s m args below meth c H locs ls ad ad0 n0 cx lo hl hA hS) (fun h => h2 h p e s m args below meth c H locs ls ad ad0 n0 cx lo hl hA hS)
theorem xj_icmp_ne {off : Int} {a : Nat} {x y : Int32} (hd : decode (xp_cd P M) pc = .ok (.if_icmp .ne off, 3)) (ht : (pc : Int) + off = (a : Int)) (h1 : ¬ x = y → xr_J P l g M ce sl a lv rs ws r) (h2 : x = y → xr_J P l g M ce sl (pc + 3) lv rs ws r) : xr_J P l g M ce sl pc lv (.int y :: .int x :: rs) ws r :=
  fun p e s m args below meth c H locs ls ad ad0 n0 cx lo hl hA hS => lv_icmp_ne (xc_ex cx) (xc_cd cx) hd ht (fun h => h1 h p e s m args below meth c H locs ls ad ad0 n0 cx lo hl hA hS) (fun h => h2 h p e s m args below meth c H locs ls ad ad0 n0 cx lo hl hA hS)
theorem xj_if_lt {off : Int} {a : Nat} {x : Int32} (hd : decode (xp_cd P M) pc = .ok (.ifCond .lt off, 3)) (ht : (pc : Int) + off = (a : Int)) (h1 : x < 0 → xr_J P l g M ce sl a lv rs ws r) (h2 : ¬ x < 0 → xr_J P l g M ce sl (pc + 3) lv rs ws r) : xr_J P l g M ce sl pc lv (.int x :: rs) ws r :=
  fun p e s m args below meth c H locs ls ad ad0 n0 cx lo hl hA hS => lv_if_lt (xc_ex cx) (xc_cd cx) hd ht (fun h => h1 h p e s m args below meth c H locs ls ad ad0 n0 cx lo hl hA hS) (fun h => h2 h p e s m args below meth c H locs ls ad ad0 n0 cx lo hl hA hS)
theorem xj_icmp_lt {off : Int} {a : Nat} {x y : Int32} (hd : decode (xp_cd P M) pc = .ok (.if_icmp .lt off, 3)) (ht : (pc : Int) + off = (a : Int)) (h1 : x < y → xr_J P l g M ce sl a lv rs ws r) (h2 : ¬ x < y → xr_J P l g M ce sl (pc + 3) lv rs ws r) : xr_J P l g M ce sl pc lv (.int y :: .int x :: rs) ws r :=
  fun p e s m args below meth c H locs ls ad ad0 n0 cx lo hl hA hS => lv_icmp_lt (xc_ex cx) (xc_cd cx) hd ht (fun h => h1 h p e s m args below meth c H locs ls ad ad0 n0 cx lo hl hA hS) (fun h => h2 h p e s m args below meth c H locs ls ad ad0 n0 cx lo hl hA hS)
theorem xj_if_ge {off : Int} {a : Nat} {x : Int32} (hd : decode (xp_cd P M) pc = .ok (.ifCond .ge off, 3)) (ht : (pc : Int) + off = (a : Int)) (h1 : ¬ x < 0 → xr_J P l g M ce sl a lv rs ws r) (h2 : x < 0 → xr_J P l g M ce sl (pc + 3) lv rs ws r) : xr_J P l g M ce sl pc lv (.int x :: rs) ws r :=
  fun p e s m args below meth c H locs ls ad ad0 n0 cx lo hl hA hS => lv_if_ge (xc_ex cx) (xc_cd cx) hd ht (fun h => h1 (Int32.not_lt.mpr h) p e s m args below meth c H locs ls ad ad0 n0 cx lo hl hA hS) (fun h => h2 (Int32.not_le.mp h) p e s m args below meth c H locs ls ad ad0 n0 cx lo hl hA hS)
theorem xj_icmp_ge {off : Int} {a : Nat} {x y : Int32} (hd : decode (xp_cd P M) pc = .ok (.if_icmp .ge off, 3)) (ht : (pc : Int) + off = (a : Int)) (h1 : ¬ x < y → xr_J P l g M ce sl a lv rs ws r) (h2 : x < y → xr_J P l g M ce sl (pc + 3) lv rs ws r) : xr_J P l g M ce sl pc lv (.int y :: .int x :: rs) ws r :=
  fun p e s m args below meth c H locs ls ad ad0 n0 cx lo hl hA hS => lv_icmp_ge (xc_ex cx) (xc_cd cx) hd ht (fun h => h1 (Int32.not_lt.mpr h) p e s m args below meth c H locs ls ad ad0 n0 cx lo hl hA hS) (fun h => h2 (Int32.not_le.mp h) p e s m args below meth c H locs ls ad ad0 n0 cx lo hl hA hS)
theorem xj_if_gt {off : Int} {a : Nat} {x : Int32} (hd : decode (xp_cd P M) pc = .ok (.ifCond .gt off, 3)) (ht : (pc : Int) + off = (a : Int)) (h1 : 0 < x → xr_J P l g M ce sl a lv rs ws r) (h2 : ¬ 0 < x → xr_J P l g M ce sl (pc + 3) lv rs ws r) : xr_J P l g M ce sl pc lv (.int x :: rs) ws r :=
  fun p e s m args below meth c H locs ls ad ad0 n0 cx lo hl hA hS => lv_if_gt (xc_ex cx) (xc_cd cx) hd ht (fun h => h1 h p e s m args below meth c H locs ls ad ad0 n0 cx lo hl hA hS) (fun h => h2 h p e s m args below meth c H locs ls ad ad0 n0 cx lo hl hA hS)
theorem xj_icmp_gt {off : Int} {a : Nat} {x y : Int32} (hd : decode (xp_cd P M) pc = .ok (.if_icmp .gt off, 3)) (ht : (pc : Int) + off = (a : Int)) (h1 : y < x → xr_J P l g M ce sl a lv rs ws r) (h2 : ¬ y < x → xr_J P l g M ce sl (pc + 3) lv rs ws r) : xr_J P l g M ce sl pc lv (.int y :: .int x :: rs) ws r :=
  fun p e s m args below meth c H locs ls ad ad0 n0 cx lo hl hA hS => lv_icmp_gt (xc_ex cx) (xc_cd cx) hd ht (fun h => h1 h p e s m args below meth c H locs ls ad ad0 n0 cx lo hl hA hS) (fun h => h2 h p e s m args below meth c H locs ls ad ad0 n0 cx lo hl hA hS)
theorem xj_if_le {off : Int} {a : Nat} {x : Int32} (hd : decode (xp_cd P M) pc = .ok (.ifCond .le off, 3)) (ht : (pc : Int) + off = (a : Int)) (h1 : ¬ 0 < x → xr_J P l g M ce sl a lv rs ws r) (h2 : 0 < x → xr_J P l g M ce sl (pc + 3) lv rs ws r) : xr_J P l g M ce sl pc lv (.int x :: rs) ws r :=
  fun p e s m args below meth c H locs ls ad ad0 n0 cx lo hl hA hS => lv_if_le (xc_ex cx) (xc_cd cx) hd ht (fun h => h1 (Int32.not_lt.mpr h) p e s m args below meth c H locs ls ad ad0 n0 cx lo hl hA hS) (fun h => h2 (Int32.not_le.mp h) p e s m args below meth c H locs ls ad ad0 n0 cx lo hl hA hS)
theorem xj_icmp_le {off : Int} {a : Nat} {x y : Int32} (hd : decode (xp_cd P M) pc = .ok (.if_icmp .le off, 3)) (ht : (pc : Int) + off = (a : Int)) (h1 : ¬ y < x → xr_J P l g M ce sl a lv rs ws r) (h2 : y < x → xr_J P l g M ce sl (pc + 3) lv rs ws r) : xr_J P l g M ce sl pc lv (.int y :: .int x :: rs) ws r :=
  fun p e s m args below meth c H locs ls ad ad0 n0 cx lo hl hA hS => lv_icmp_le (xc_ex cx) (xc_cd cx) hd ht (fun h => h1 (Int32.not_lt.mpr h) p e s m args below meth c H locs ls ad ad0 n0 cx lo hl hA hS) (fun h => h2 (Int32.not_le.mp h) p e s m args below meth c H locs ls ad ad0 n0 cx lo hl hA hS)
theorem xj_tableswitch {d lo hi : Int} {offs : Array Int} {len : Nat} {x : Int32} (k : Nat → Option xr_R) {a : Nat} {tab : List (Int32 × Nat)} (hd : decode (xp_cd P M) pc = .ok (.tableswitch d lo hi offs, len)) (ht : (pc : Int) + d = (a : Int)) (htab : xr_tsw pc lo hi offs tab a) (hk : ∀ t : Nat, k t = some r → xr_J P l g M ce sl t lv rs ws r) (h : xr_sw x k a tab = some r) : xr_J P l g M ce sl pc lv (.int x :: rs) ws r := by
  intro p e s m args below meth c H locs ls ad ad0 n0 cx lo hl hA hS
  rcases htab x with ⟨h1, h2⟩ | ⟨h1, h2, off, t, h3, h4, h5⟩
  · exact lv_tableOut (xc_ex cx) (xc_cd cx) hd h1 ht (hk a ((h2 k).symm.trans h) p e s m args below meth c H locs ls ad ad0 n0 cx lo hl hA hS)
  · exact lv_tableIn (xc_ex cx) (xc_cd cx) hd h1 h2 h3 h4 (hk t ((h5 k).symm.trans h) p e s m args below meth c H locs ls ad ad0 n0 cx lo hl hA hS)
theorem xj_ldc {k : Nat} {x : Int32} (hd : decode (xp_cd P M) pc = .ok (.ldc k, 2)) (hc : Cond.constant (xp_own P M) k x ∈ xp_T P) (h : xr_J P l g M ce sl (pc + 2) lv (.int x :: st) ws r) : xr_J P l g M ce sl pc lv st ws r :=
  fun p e s m args below meth c H locs ls ad ad0 n0 cx lo hl hA hS => lv_ldc (xc_ex cx) (xc_cd cx) (xc_ow cx) (xc_ts cx _ hc) hd (h p e s m args below meth c H locs ls ad ad0 n0 cx lo hl hA hS)
theorem xj_ldcS {k : Nat} (hd : decode (xp_cd P M) pc = .ok (.ldc k, 2)) (hc : xp_x P = (xp_own P M, k)) (h : xr_J P l g M ce sl (pc + 2) lv (.ref 1 :: st) ws r) : xr_J P l g M ce sl pc lv st ws r := by
  intro p e s m args below meth c H locs ls ad ad0 n0 cx lo hl hA hS
  have hR := (xc_fx cx).2.2.2.2.1.1
  rw [hc] at hR
  have h1 := h p e s m args below meth c H locs ls ad ad0 n0 cx lo hl hA hS
  have e1 : (.ref 1 :: st).map (xr_v ad) = .ref (xg_sa g) :: st.map (xr_v ad) := by
    show Value.ref (ad 1) :: _ = _
    rw [hA.2.2.2]
  rw [e1] at h1
  exact va_ldcS (xc_ex cx) (xc_cd cx) (xc_ow cx) hR hd h1
theorem xj_ldc2 {k : Nat} {x : Int64} (hd : decode (xp_cd P M) pc = .ok (.ldc2_w k, 3)) (hc : Cond.constantLong (xp_own P M) k x ∈ xp_T P) (h : xr_J P l g M ce sl (pc + 3) lv (.long x :: st) ws r) : xr_J P l g M ce sl pc lv st ws r :=
  fun p e s m args below meth c H locs ls ad ad0 n0 cx lo hl hA hS => lv_ldc2 (xc_ex cx) (xc_cd cx) (xc_ow cx) (xc_ts cx _ hc) hd (h p e s m args below meth c H locs ls ad ad0 n0 cx lo hl hA hS)
theorem xj_keep {live : Option (List Nat)} (h : xr_J P l g M ce sl pc (xr_keep live lv) st ws r) : xr_J P l g M ce sl pc lv st ws r :=
  fun p e s m args below meth c H locs ls ad ad0 n0 cx lo hl hA hS => h p e s m args below meth c H locs ls ad ad0 n0 cx lo (xr_has_of hl (xr_l_mem (fun _ hq => xr_keep_mem hq))) hA hS
theorem xj_getfield {k a b j : Nat} {fs : List Value} {y : Value} (hd : decode (xp_cd P M) pc = .ok (.getfield k, 3)) (hf : xr_fd P M k a b) (hj : ws[j]? = some (.inr (a, fs))) (hy : fs[b]? = some y) (h : xr_J P l g M ce sl (pc + 3) lv (y :: rs) ws r) : xr_J P l g M ce sl pc lv (.ref (j + 2) :: rs) ws r := by
  intro p e s m args below meth c H locs ls ad ad0 n0 cx lo hl hA hS
  obtain ⟨C, T, N, hc, hb, hin, hlk⟩ := hf
  have he := xr_w_at (g := g) (ad := ad) hj
  have hv : (fs.map (xr_v ad))[b]? = some (xr_v ad y) := by rw [List.getElem?_map, hy]; rfl
  have h1 := h p e s m args below meth c H locs ls ad ad0 n0 cx lo hl hA hS
  rcases hlk with hlk | ⟨host, hlk⟩
  · exact va_get (xc_ex cx) (xc_cd cx) (xc_ts cx) hin (xc_ow cx) (xc_fx cx).1 hA.1 j he hc b hb (xc_ts cx _ hlk) (fun _ hx => hx) hv hd h1
  · exact va_getN (xc_ex cx) (xc_cd cx) (xc_ts cx) hin (xc_ow cx) (xc_fx cx).1 hA.1 j he hc b hb (xc_ts cx _ hlk) (fun _ hx => hx) hv hd h1
theorem xr_At_set {H1 : Heap} {ad : Nat → Nat} {j : Nat} {c : xr_C} {H : Heap} (hA : xr_At P g ad ws H) (h1 : va_P (xg_D g) (xp_cl P) ((xr_w g ad ws).set j (ad (j + 2), xr_c g ad c)) H1) (h2 : va_D (xg_A g) ((xr_w g ad ws).set j (ad (j + 2), xr_c g ad c))) : xr_At P g ad (ws.set j c) H1 := by
  refine ⟨?_, ?_, hA.2.2.1, hA.2.2.2⟩
  · rw [xr_w_set]; exact h1
  · rw [xr_w_set]; exact h2
theorem xr_Lo_set {ad ad0 : Nat → Nat} {n0 j : Nat} {c : xr_C} (lo : xr_Lo P M ce sl ws ad ad0 n0) : xr_Lo P M ce sl (ws.set j c) ad ad0 n0 :=
  ⟨lo.1, lo.2.1, fun h => by rw [List.length_set]; exact lo.2.2.1 h, lo.2.2.2.1, lo.2.2.2.2⟩
theorem xr_fit_v {ty : FieldType} {v : Value} {ad : Nat → Nat} (h : fits ty v = true) : fits ty (xr_v ad v) = true := by
  cases v with
  | ref k => cases ty <;> first | exact h | rfl
  | _ => exact h
theorem xj_putfield {k a b j : Nat} {fs : List Value} {y : Value} (hd : decode (xp_cd P M) pc = .ok (.putfield k, 3)) (hf : xr_fp P M k a b) (hj : ws[j]? = some (.inr (a, fs))) (hy : b < fs.length ∧ fits ((xp_t P).2.2 a b) y = true) (h : xr_J P l g M ce sl (pc + 3) lv rs (ws.set j (.inr (a, fs.set b y))) r) : xr_J P l g M ce sl pc lv (y :: .ref (j + 2) :: rs) ws r := by
  intro p e s m args below meth c H locs ls ad ad0 n0 cx lo hl hA hS
  obtain ⟨C, T, N, ty, hc, hb, hin, hty, htb, hnm, hlk⟩ := hf
  have he := xr_w_at (g := g) (ad := ad) hj
  have hfit : fits (ty b) (xr_v ad y) = true := by rw [htb]; exact xr_fit_v hy.2
  have hl2 : b < (fs.map (xr_v ad)).length := by rw [List.length_map]; exact hy.1
  have kk : ∀ (H1 : Heap) (locs1 : List Loc), va_P (xg_D g) (xp_cl P) ((xr_w g ad ws).set j (ad (j + 2), .inr (a, (fs.map (xr_v ad)).set b (xr_v ad y)))) H1 → va_D (xg_A g) ((xr_w g ad ws).set j (ad (j + 2), .inr (a, (fs.map (xr_v ad)).set b (xr_v ad y)))) → va_S (xg_A g) s.heap H1 locs1 → W p l e (xp_rm P M) s m args below meth c H1 locs1 ce sl (xr_QQ P g M ad0 n0 r below args s) (F0 m (pc + 3) ls (rs.map (xr_v ad))) := by
    intro H1 locs1 h1 h2 h3
    rw [← List.map_set] at h1 h2
    exact h p e s m args below meth c H1 locs1 ls ad ad0 n0 cx (xr_Lo_set lo) hl (xr_At_set (c := .inr (a, fs.set b y)) hA h1 h2) h3
  rcases hlk with ⟨hlk, hfin | ⟨hfin, hn1, hn2⟩⟩ | ⟨hfin, host, hlk⟩
  · exact va_put (xc_ex cx) (xc_cd cx) (xc_ts cx) hin ty hty hnm (xc_ow cx) (xc_fx cx).1 hA.1 hA.2.1 hS j he hc b hb (xc_ts cx _ hlk) (fun _ hx => hx) hfin (hty b hb) (narrow_of_fits hfit) hfit hl2 hd kk
  · exact va_putF (xc_ex cx) (xc_cd cx) (xc_ts cx) hin ty hty hnm (xc_ow cx) (xc_fx cx).1 hA.1 hA.2.1 hS j he hc b hb (xc_ts cx _ hlk) (fun _ hx => hx) hfin ((xc_nm cx).trans hn1) hn2 (hty b hb) (narrow_of_fits hfit) hfit hl2 hd kk
  · exact va_putN (xc_ex cx) (xc_cd cx) (xc_ts cx) hin ty hty hnm (xc_ow cx) (xc_fx cx).1 hA.1 hA.2.1 hS j he hc b hb (xc_ts cx _ hlk) (fun _ hx => hx) hfin (hty b hb) (narrow_of_fits hfit) hfit hl2 hd kk
theorem xj_iald {j n : Nat} {f : Nat → Int32} {x : Int32} (hd : decode (xp_cd P M) pc = .ok (.iaload, 1)) (hj : ws[j]? = some (.inl (0, n, .inl f))) (hx : xr_in x n = true) (h : xr_J P l g M ce sl (pc + 1) lv (.int (f x.toNatClampNeg) :: rs) ws r) : xr_J P l g M ce sl pc lv (.int x :: .ref (j + 2) :: rs) ws r :=
  fun p e s m args below meth c H locs ls ad ad0 n0 cx lo hl hA hS => va_iald (xc_ex cx) (xc_cd cx) (xc_fx cx).1 hA.1 j 0 (xr_w_at (g := g) (ad := ad) hj) rfl (xr_in_of hx) hd (h p e s m args below meth c H locs ls ad ad0 n0 cx lo hl hA hS)
theorem xj_cald {j n : Nat} {f : Nat → Int32} {x : Int32} (hd : decode (xp_cd P M) pc = .ok (.caload, 1)) (hj : ws[j]? = some (.inl (2, n, .inl f))) (hx : xr_in x n = true) (h : xr_J P l g M ce sl (pc + 1) lv (.int (f x.toNatClampNeg) :: rs) ws r) : xr_J P l g M ce sl pc lv (.int x :: .ref (j + 2) :: rs) ws r :=
  fun p e s m args below meth c H locs ls ad ad0 n0 cx lo hl hA hS => va_cald (xc_ex cx) (xc_cd cx) (xc_fx cx).1 hA.1 j 2 (xr_w_at (g := g) (ad := ad) hj) rfl (xr_in_of hx) hd (h p e s m args below meth c H locs ls ad ad0 n0 cx lo hl hA hS)
theorem xj_zald {j n : Nat} {f : Nat → Int32} {x : Int32} (hd : decode (xp_cd P M) pc = .ok (.baload, 1)) (hj : ws[j]? = some (.inl (3, n, .inl f))) (hx : xr_in x n = true) (h : xr_J P l g M ce sl (pc + 1) lv (.int (f x.toNatClampNeg) :: rs) ws r) : xr_J P l g M ce sl pc lv (.int x :: .ref (j + 2) :: rs) ws r :=
  fun p e s m args below meth c H locs ls ad ad0 n0 cx lo hl hA hS => va_zald (xc_ex cx) (xc_cd cx) (xc_fx cx).1 hA.1 j 3 (xr_w_at (g := g) (ad := ad) hj) rfl (xr_in_of hx) hd (h p e s m args below meth c H locs ls ad ad0 n0 cx lo hl hA hS)
theorem xj_lald {j n : Nat} {f : Nat → Int64} {x : Int32} (hd : decode (xp_cd P M) pc = .ok (.laload, 1)) (hj : ws[j]? = some (.inl (1, n, .inr (.inl f)))) (hx : xr_in x n = true) (h : xr_J P l g M ce sl (pc + 1) lv (.long (f x.toNatClampNeg) :: rs) ws r) : xr_J P l g M ce sl pc lv (.int x :: .ref (j + 2) :: rs) ws r :=
  fun p e s m args below meth c H locs ls ad ad0 n0 cx lo hl hA hS => va_lald (xc_ex cx) (xc_cd cx) (xc_fx cx).1 hA.1 j 1 (xr_w_at (g := g) (ad := ad) hj) rfl (xr_in_of hx) hd (h p e s m args below meth c H locs ls ad ad0 n0 cx lo hl hA hS)
theorem xj_sld {x : Int32} (hd : decode (xp_cd P M) pc = .ok (.iaload, 1)) (hx : xr_in x (xg_L g) = true) (h : xr_J P l g M ce sl (pc + 1) lv (.int (xg_xs g x.toNatClampNeg) :: rs) ws r) : xr_J P l g M ce sl pc lv (.int x :: .ref 0 :: rs) ws r := by
  intro p e s m args below meth c H locs ls ad ad0 n0 cx lo hl hA hS
  have e1 : (.int x :: .ref 0 :: rs).map (xr_v ad) = .int x :: .ref (xg_b g) :: rs.map (xr_v ad) := by
    show Value.int x :: Value.ref (ad 0) :: _ = _
    rw [hA.2.2.1]
  rw [e1]
  obtain ⟨-, hX, ⟨hb1, hb2⟩, -⟩ := xc_fx cx
  exact va_sld (xc_ex cx) (xc_cd cx) hX (Nat.lt_of_lt_of_le hb1 hb2) (Nat.not_le.mpr hb1) hS (xr_in_of hx) hd (h p e s m args below meth c H locs ls ad ad0 n0 cx lo hl hA hS)
theorem xj_slen (hd : decode (xp_cd P M) pc = .ok (.arraylength, 1)) (h : xr_J P l g M ce sl (pc + 1) lv (.int (Int32.ofNat (xg_L g)) :: rs) ws r) : xr_J P l g M ce sl pc lv (.ref 0 :: rs) ws r := by
  intro p e s m args below meth c H locs ls ad ad0 n0 cx lo hl hA hS
  have e1 : (.ref 0 :: rs).map (xr_v ad) = .ref (xg_b g) :: rs.map (xr_v ad) := by
    show Value.ref (ad 0) :: _ = _
    rw [hA.2.2.1]
  rw [e1]
  obtain ⟨-, hX, ⟨hb1, hb2⟩, -⟩ := xc_fx cx
  exact va_slen (xc_ex cx) (xc_cd cx) hX (Nat.lt_of_lt_of_le hb1 hb2) (Nat.not_le.mpr hb1) hS hd (h p e s m args below meth c H locs ls ad ad0 n0 cx lo hl hA hS)
theorem xr_tys_at (g : xr_G) {t : Nat} (ht : t < 4) : (xr_tys g)[t]? = some (xg_c g t, xt_at t) := by
  match t, ht with
  | 0, _ => rfl
  | 1, _ => rfl
  | 2, _ => rfl
  | 3, _ => rfl
theorem xj_alen {j : Nat} {a : Nat × vp_A} (hd : decode (xp_cd P M) pc = .ok (.arraylength, 1)) (hj : ws[j]? = some (.inl a)) (ha : a.1 < 4) (h : xr_J P l g M ce sl (pc + 1) lv (.int (Int32.ofNat a.2.1) :: rs) ws r) : xr_J P l g M ce sl pc lv (.ref (j + 2) :: rs) ws r :=
  fun p e s m args below meth c H locs ls ad ad0 n0 cx lo hl hA hS => va_alen (xc_ex cx) (xc_cd cx) (xc_fx cx).1 hA.1 j a.1 (xr_w_at (g := g) (ad := ad) hj) (xr_tys_at g ha) rfl hd (h p e s m args below meth c H locs ls ad ad0 n0 cx lo hl hA hS)
theorem xj_iast {j n : Nat} {f : Nat → Int32} {x y : Int32} (hd : decode (xp_cd P M) pc = .ok (.iastore, 1)) (hj : ws[j]? = some (.inl (0, n, .inl f))) (hx : xr_in x n = true) (h : xr_J P l g M ce sl (pc + 1) lv rs (ws.set j (.inl (0, n, .inl (upd f x.toNatClampNeg (xr_nar 0 y))))) r) : xr_J P l g M ce sl pc lv (.int y :: .int x :: .ref (j + 2) :: rs) ws r :=
  fun p e s m args below meth c H locs ls ad ad0 n0 cx lo hl hA hS => va_iast (xc_ex cx) (xc_cd cx) (xc_fx cx).1 hA.1 hA.2.1 hS j 0 (xr_w_at (g := g) (ad := ad) hj) rfl (xr_in_of hx) hd
    (fun H1 locs1 h1 h2 h3 => h p e s m args below meth c H1 locs1 ls ad ad0 n0 cx (xr_Lo_set lo) hl (xr_At_set (c := .inl (0, n, .inl (upd f x.toNatClampNeg y))) hA h1 h2) h3)
theorem xj_cast {j n : Nat} {f : Nat → Int32} {x y : Int32} (hd : decode (xp_cd P M) pc = .ok (.castore, 1)) (hj : ws[j]? = some (.inl (2, n, .inl f))) (hx : xr_in x n = true) (h : xr_J P l g M ce sl (pc + 1) lv rs (ws.set j (.inl (2, n, .inl (upd f x.toNatClampNeg (xr_nar 2 y))))) r) : xr_J P l g M ce sl pc lv (.int y :: .int x :: .ref (j + 2) :: rs) ws r :=
  fun p e s m args below meth c H locs ls ad ad0 n0 cx lo hl hA hS => va_cast (xc_ex cx) (xc_cd cx) (xc_fx cx).1 hA.1 hA.2.1 hS j 2 (xr_w_at (g := g) (ad := ad) hj) rfl (xr_in_of hx) hd
    (fun H1 locs1 h1 h2 h3 => h p e s m args below meth c H1 locs1 ls ad ad0 n0 cx (xr_Lo_set lo) hl (xr_At_set (c := .inl (2, n, .inl (upd f x.toNatClampNeg (vp_nar .char y)))) hA h1 h2) h3)
theorem xj_zast {j n : Nat} {f : Nat → Int32} {x y : Int32} (hd : decode (xp_cd P M) pc = .ok (.bastore, 1)) (hj : ws[j]? = some (.inl (3, n, .inl f))) (hx : xr_in x n = true) (h : xr_J P l g M ce sl (pc + 1) lv rs (ws.set j (.inl (3, n, .inl (upd f x.toNatClampNeg (xr_nar 3 y))))) r) : xr_J P l g M ce sl pc lv (.int y :: .int x :: .ref (j + 2) :: rs) ws r :=
  fun p e s m args below meth c H locs ls ad ad0 n0 cx lo hl hA hS => va_zast (xc_ex cx) (xc_cd cx) (xc_fx cx).1 hA.1 hA.2.1 hS j 3 (xr_w_at (g := g) (ad := ad) hj) rfl (xr_in_of hx) hd
    (fun H1 locs1 h1 h2 h3 => h p e s m args below meth c H1 locs1 ls ad ad0 n0 cx (xr_Lo_set lo) hl (xr_At_set (c := .inl (3, n, .inl (upd f x.toNatClampNeg (vp_nar .boolean y)))) hA h1 h2) h3)
theorem xj_last {j n : Nat} {f : Nat → Int64} {x : Int32} {y : Int64} (hd : decode (xp_cd P M) pc = .ok (.lastore, 1)) (hj : ws[j]? = some (.inl (1, n, .inr (.inl f)))) (hx : xr_in x n = true) (h : xr_J P l g M ce sl (pc + 1) lv rs (ws.set j (.inl (1, n, .inr (.inl (vp_updL f x.toNatClampNeg y))))) r) : xr_J P l g M ce sl pc lv (.long y :: .int x :: .ref (j + 2) :: rs) ws r :=
  fun p e s m args below meth c H locs ls ad ad0 n0 cx lo hl hA hS => va_last (xc_ex cx) (xc_cd cx) (xc_fx cx).1 hA.1 hA.2.1 hS j 1 (xr_w_at (g := g) (ad := ad) hj) rfl (xr_in_of hx) hd
    (fun H1 locs1 h1 h2 h3 => h p e s m args below meth c H1 locs1 ls ad ad0 n0 cx (xr_Lo_set lo) hl (xr_At_set (c := .inl (1, n, .inr (.inl (vp_updL f x.toNatClampNeg y)))) hA h1 h2) h3)
theorem xr_Qd {ad ad0 : Nat → Nat} {n0 : Nat} {v : Option Value} {s t : State} {args : Array Value} {H : Heap} {locs : List Loc} (lo : xr_Lo P M ce sl ws ad ad0 n0) (hA : xr_At P g ad ws H) (hS : va_S (xg_A g) s.heap H locs) (ht : t.heap = H) : xr_Qc P g ad0 n0 (xp_I P M).2.2.1 (.inl v, ws) args s (.returned (v.map (xr_v ad))) t :=
  ⟨v, ad, rfl, lo.2.2.2.1, lo.2.2.2.2, rfl, by rw [ht]; exact hA, hS.F ht⟩
theorem xj_ireturn {x : Int32} {ty : FieldType} (hd : decode (xp_cd P M) pc = .ok (.ireturn, 1)) (hr : xp_rt P M = some ty) (hf : fits ty (.int x) = true) : xr_J P l g M ce sl pc lv [.int x] ws (.inl (some (.int x)), ws) :=
  fun p e s m args below meth c H locs ls ad ad0 n0 cx lo hl hA hS => (W.widen lo.1 lo.2.1 (W.zret (xc_ex cx) (xc_cd cx) ((xc_rt cx).trans hr) (narrow_of_fits hf) (fun t ht _ => xr_Qd (v := some (.int x)) lo hA hS ht) hS.2.2 hd (xc_lk cx)))
theorem xj_lreturn {x : Int64} (hd : decode (xp_cd P M) pc = .ok (.lreturn, 1)) (hr : xp_rt P M = some .long) : xr_J P l g M ce sl pc lv [.long x] ws (.inl (some (.long x)), ws) :=
  fun p e s m args below meth c H locs ls ad ad0 n0 cx lo hl hA hS => (W.widen lo.1 lo.2.1 (W.lret (xc_ex cx) (xc_cd cx) ((xc_rt cx).trans hr) (fun t ht _ => xr_Qd (v := some (.long x)) lo hA hS ht) hS.2.2 hd (xc_lk cx)))
theorem xj_return (hd : decode (xp_cd P M) pc = .ok (.return_, 1)) (hr : xp_rt P M = none) : xr_J P l g M ce sl pc lv [] ws (.inl none, ws) :=
  fun p e s m args below meth c H locs ls ad ad0 n0 cx lo hl hA hS => (W.widen lo.1 lo.2.1 (W.vret (xc_ex cx) (xc_cd cx) ((xc_rt cx).trans hr) (fun t ht _ => xr_Qd (v := none) lo hA hS ht) hS.2.2 hd (xc_lk cx)))
end
