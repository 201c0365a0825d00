/-! THE RUN: the class, the reference and the law as an interpreter runs them over an abstract world.
A reference is a place: .ref 0 is the script, .ref 1 the text ITRLME, .ref (k + 2) the k-th cell of the world. -/
abbrev xr_C : Type := (Nat × vp_A) ⊕ (Nat × List Value)
abbrev xr_W : Type := List xr_C
/-- a row of a method's table: pc, length, instruction, operands, the switch's table, the locals that live -/
abbrev xr_E : Type := Nat × Nat × Instr × Nat × Nat × Value × List (Int32 × Nat) × Option (List Nat)
/-- a method as the run needs it: cells, slots, does it make cells, its class's number, return type, its handlers (from, to, handler, length of the handler's store, its local, exception), the words of its arguments at most -/
abbrev xr_M : Type := Nat × Nat × Bool × Nat × Option FieldType × List (Nat × Nat × Nat × Nat × Nat × String) × Nat
def xr_get (i : Nat) : List (Nat × Value) → Option Value
  | [] => none
  | q :: r => if q.1 = i then some q.2 else xr_get i r
def xr_ins (i : Nat) (v : Value) : List (Nat × Value) → List (Nat × Value)
  | [] => [(i, v)]
  | q :: r => if q.1 < i then q :: xr_ins i v r else (i, v) :: q :: r
def xr_put (i : Nat) (v : Value) (lv : List (Nat × Value)) : List (Nat × Value) := xr_ins i v (lv.filter (fun q => !(q.1 == i) && !(q.1 + 1 == i && q.2.category == 2)))
def xr_putL (i : Nat) (v : Value) (lv : List (Nat × Value)) : List (Nat × Value) := xr_ins i v (lv.filter (fun q => !(q.1 == i) && (!(q.1 == i + 1) && !(q.1 + 1 == i && q.2.category == 2))))
def xr_keep (live : Option (List Nat)) (lv : List (Nat × Value)) : List (Nat × Value) := match live with
  | none => lv
  | some ks => lv.filter (fun q => ks.contains q.1)
def xr_find (pc : Nat) : List xr_E → Option (Nat × Instr × Nat × Nat × Value × List (Int32 × Nat) × Option (List Nat))
  | [] => none
  | e :: r => if e.1 = pc then some e.2 else xr_find pc r
def xr_in (i : Int32) (n : Nat) : Bool := !(decide (i < 0)) && decide (i.toNatClampNeg < n)
/-- a method's number, its table, its words, cells and slots made so far, pc, locals, stack, world -/
abbrev xr_K : Type := Nat × List xr_E × xr_M × Nat × Nat × Nat × List (Nat × Value) × List Value × xr_W
abbrev xr_R : Type := (Option Value ⊕ String) × xr_W
/-- a value that names no cell beyond the n-th -/
def xr_le (n : Nat) (v : Value) : Bool := match v with
  | .ref k => decide (k < n + 2)
  | _ => true
def xr_wle (n : Nat) (c : xr_C) : Bool := match c with
  | .inl _ => true
  | .inr o => o.2.all (xr_le n)
section
variable {ρ : Type}
def xr_ii (st : List Value) (f : Int32 → Int32 → Int32) (nx : List Value → Option ρ) : Option ρ := match st with
  | .int y :: .int x :: r => nx (.int (f x y) :: r)
  | _ => none
def xr_ll (st : List Value) (f : Int64 → Int64 → Int64) (nx : List Value → Option ρ) : Option ρ := match st with
  | .long y :: .long x :: r => nx (.long (f x y) :: r)
  | _ => none
def xr_li (st : List Value) (f : Int64 → Int32 → Int64) (nx : List Value → Option ρ) : Option ρ := match st with
  | .int y :: .long x :: r => nx (.long (f x y) :: r)
  | _ => none
def xr_i1 (st : List Value) (nx : Int32 → List Value → Option ρ) : Option ρ := match st with
  | .int x :: r => nx x r
  | _ => none
def xr_i2 (st : List Value) (nx : Int32 → Int32 → List Value → Option ρ) : Option ρ := match st with
  | .int y :: .int x :: r => nx x y r
  | _ => none
def xr_l1 (st : List Value) (nx : Int64 → List Value → Option ρ) : Option ρ := match st with
  | .long x :: r => nx x r
  | _ => none
def xr_l2 (st : List Value) (nx : Int64 → Int64 → List Value → Option ρ) : Option ρ := match st with
  | .long y :: .long x :: r => nx x y r
  | _ => none
def xr_a1 (st : List Value) (nx : Nat → List Value → Option ρ) : Option ρ := match st with
  | .ref x :: r => nx x r
  | _ => none
def xr_gi (o : Option Value) (nx : Int32 → Option ρ) : Option ρ := match o with
  | some (.int x) => nx x
  | _ => none
def xr_gl (o : Option Value) (nx : Int64 → Option ρ) : Option ρ := match o with
  | some (.long x) => nx x
  | _ => none
def xr_ga (o : Option Value) (nx : Nat → Option ρ) : Option ρ := match o with
  | some (.ref x) => nx x
  | _ => none
def xr_c0 (c : ClassFile.Cond) (x : Int32) (A B : Option ρ) : Option ρ := match c with
  | .eq => if x = 0 then A else B
  | .ne => if x = 0 then B else A
  | .lt => if x < 0 then A else B
  | .ge => if x < 0 then B else A
  | .gt => if 0 < x then A else B
  | .le => if 0 < x then B else A
def xr_c2 (c : ClassFile.Cond) (x y : Int32) (A B : Option ρ) : Option ρ := match c with
  | .eq => if x = y then A else B
  | .ne => if x = y then B else A
  | .lt => if x < y then A else B
  | .ge => if x < y then B else A
  | .gt => if y < x then A else B
  | .le => if y < x then B else A
def xr_sw (x : Int32) (k : Nat → Option ρ) (d : Nat) : List (Int32 × Nat) → Option ρ
  | [] => k d
  | q :: r => if x = q.1 then k q.2 else xr_sw x k d r
/-- a cell that is an array of ints (chars, booleans), of longs, an object -/
def xr_ci (o : Option xr_C) (t : Nat) (nx : Nat → (Nat → Int32) → Option ρ) : Option ρ := match o with
  | some (.inl (t', n, .inl f)) => if t' = t then nx n f else none
  | _ => none
def xr_cl (o : Option xr_C) (nx : Nat → (Nat → Int64) → Option ρ) : Option ρ := match o with
  | some (.inl (t', n, .inr (.inl f))) => if t' = 1 then nx n f else none
  | _ => none
def xr_co (o : Option xr_C) (ci : Nat) (nx : List Value → Option ρ) : Option ρ := match o with
  | some (.inr (c, fs)) => if c = ci then nx fs else none
  | _ => none
end
section
variable {ρ : Type}
def xr_ald (sc : Nat × (Nat → Int32)) (t : Nat) (st : List Value) (ws : xr_W) (nx : List Value → Option ρ) : Option ρ := match st with
  | .int x :: .ref 0 :: r => if t = 0 ∧ xr_in x sc.1 = true then nx (.int (sc.2 x.toNatClampNeg) :: r) else none
  | .int x :: .ref (j + 2) :: r => xr_ci ws[j]? t fun n f => if xr_in x n = true then nx (.int (f x.toNatClampNeg) :: r) else none
  | _ => none
def xr_lald (st : List Value) (ws : xr_W) (nx : List Value → Option ρ) : Option ρ := match st with
  | .int x :: .ref (j + 2) :: r => xr_cl ws[j]? fun n f => if xr_in x n = true then nx (.long (f x.toNatClampNeg) :: r) else none
  | _ => none
def xr_nar (t : Nat) (y : Int32) : Int32 := match t with
  | 2 => vp_nar .char y
  | 3 => vp_nar .boolean y
  | _ => y
def xr_ast (t : Nat) (st : List Value) (ws : xr_W) (nx : List Value → xr_W → Option ρ) : Option ρ := match st with
  | .int y :: .int x :: .ref (j + 2) :: r => xr_ci ws[j]? t fun n f => if xr_in x n = true then nx r (ws.set j (.inl (t, n, .inl (upd f x.toNatClampNeg (xr_nar t y))))) else none
  | _ => none
def xr_last (st : List Value) (ws : xr_W) (nx : List Value → xr_W → Option ρ) : Option ρ := match st with
  | .long y :: .int x :: .ref (j + 2) :: r => xr_cl ws[j]? fun n f => if xr_in x n = true then nx r (ws.set j (.inl (1, n, .inr (.inl (vp_updL f x.toNatClampNeg y))))) else none
  | _ => none
def xr_len (sc : Nat × (Nat → Int32)) (st : List Value) (ws : xr_W) (nx : List Value → Option ρ) : Option ρ := match st with
  | .ref 0 :: r => nx (.int (Int32.ofNat sc.1) :: r)
  | .ref (j + 2) :: r => match ws[j]? with
    | some (.inl a) => if a.1 < 4 then nx (.int (Int32.ofNat a.2.1) :: r) else none
    | _ => none
  | _ => none
def xr_gf (a b : Nat) (st : List Value) (ws : xr_W) (nx : List Value → Option ρ) : Option ρ := match st with
  | .ref (j + 2) :: r => xr_co ws[j]? a fun fs => match fs[b]? with
    | some y => nx (y :: r)
    | none => none
  | _ => none
def xr_pf (ty : FieldType) (a b : Nat) (st : List Value) (ws : xr_W) (nx : List Value → xr_W → Option ρ) : Option ρ := match st with
  | y :: .ref (j + 2) :: r => xr_co ws[j]? a fun fs => if b < fs.length ∧ fits ty y = true then nx r (ws.set j (.inr (a, fs.set b y))) else none
  | _ => none
/-- the bounds of System.arraycopy -/
abbrev xr_cg (sp dp n : Int32) (n0 n1 : Nat) : Prop := (¬ sp < 0 ∧ ¬ dp < 0 ∧ ¬ n < 0) ∧ sp.toNatClampNeg + n.toNatClampNeg ≤ n0 ∧ dp.toNatClampNeg + n.toNatClampNeg ≤ n1
/-- System.arraycopy from the cell j0 to the cell j1 -/
def xr_cpc (c0 c1 : Option xr_C) (sp dp n : Int32) (nx : xr_C → Option ρ) : Option ρ := match c0, c1 with
  | some (.inl (t0, n0, .inl f)), some (.inl (t1, n1, .inl g)) => if t0 = t1 then (if xr_cg sp dp n n0 n1 then (match t1 with
    | 0 => nx (.inl (0, n1, .inl (va_cpy f g sp.toNatClampNeg dp.toNatClampNeg n.toNatClampNeg)))
    | 2 => if ((List.range n.toNatClampNeg).all fun i => fits .char (.int (f (sp.toNatClampNeg + i)))) = true then nx (.inl (2, n1, .inl (va_cpy f g sp.toNatClampNeg dp.toNatClampNeg n.toNatClampNeg))) else none
    | _ => none) else none) else none
  | some (.inl (t0, n0, .inr (.inl f))), some (.inl (t1, n1, .inr (.inl g))) => if t0 = 1 ∧ t1 = 1 then (if xr_cg sp dp n n0 n1 then nx (.inl (1, n1, .inr (.inl (va_cpy f g sp.toNatClampNeg dp.toNatClampNeg n.toNatClampNeg)))) else none) else none
  | _, _ => none
def xr_cpy (st : List Value) (ws : xr_W) (nx : List Value → xr_W → Option ρ) : Option ρ := match st with
  | .int n :: .int dp :: .ref (j1 + 2) :: .int sp :: .ref (j0 + 2) :: r => xr_cpc ws[j0]? ws[j1]? sp dp n fun c => nx r (ws.set j1 c)
  | _ => none
end
/-- "ITRLME".indexOf -/
def xr_ix (c : Int32) : Int32 := if c = 73 then 0 else if c = 84 then 1 else if c = 82 then 2 else if c = 76 then 3 else if c = 77 then 4 else if c = 69 then 5 else -1
/-- behind a call -/
def xr_back (k : xr_K → Option xr_R) (M : Nat) (C : List xr_E) (I : xr_M) (ce sl pc : Nat) (lv : List (Nat × Value)) (r : List Value) (n0 : Nat) (th : Bool) (o : Option xr_R) : Option xr_R := match o with
  | none => none
  | some (.inl none, ws) => if I.2.2.1 = false ∨ n0 ≤ ws.length then k (M, C, I, ce, sl, pc + 3, lv, r, ws) else none
  | some (.inl (some y), ws) => if I.2.2.1 = false ∨ n0 ≤ ws.length then k (M, C, I, ce, sl, pc + 3, lv, y :: r, ws) else none
  | some (.inr E, ws) => if I.2.2.1 = false ∧ th = true then (match I.2.2.2.2.2.1 with
    | [] => some (.inr E, ws)
    | h :: t => match (h :: t).find? (fun q => decide (q.1 ≤ pc) && decide (pc < q.2.1) && (q.2.2.2.2.2 == E)) with
      | none => none
      | some q => k (M, C, I, ce, sl, q.2.2.1 + q.2.2.2.1, lv.filter (fun z => !(z.1 == q.2.2.2.2.1) && !(z.1 + 1 == q.2.2.2.2.1 && z.2.category == 2)), [], ws)) else none
/-- the calls of the library: 1 Object.<init>, 2 Math.max, 3 System.arraycopy, 4 "ITRLME".indexOf -/
def xr_lib (v : Nat) (st : List Value) (ws : xr_W) (nx : List Value → xr_W → Option xr_R) : Option xr_R := match v with
  | 1 => if (st.map Value.category).sum ≤ 8 then xr_a1 st (fun _ r => nx r ws) else none
  | 2 => if (st.map Value.category).sum ≤ 8 then xr_ii st (fun x y => if x < y then y else x) (fun r => nx r ws) else none
  | 3 => if (st.map Value.category).sum ≤ 12 then xr_cpy st ws nx else none
  | 4 => if (st.map Value.category).sum ≤ 8 then (match st with
    | .int c :: .ref 1 :: r => nx (.int (xr_ix c) :: r) ws
    | _ => none) else none
  | _ => none
def xr_rc (as : List Value) (ws : xr_W) (ci : Nat) : Bool := match as with
  | .ref (j + 2) :: _ => match ws[j]? with
    | some (.inr o) => decide (o.1 = ci)
    | _ => false
  | _ => false
/-- a call of the method a, of the words J, with b arguments (its object is one) -/
def xr_call (k : xr_K → Option xr_R) (M : Nat) (C : List xr_E) (I : xr_M) (ce sl pc : Nat) (lv : List (Nat × Value)) (st : List Value) (ws : xr_W) (a b : Nat) (v th : Bool) (T : List xr_E × xr_M) : Option xr_R :=
  if (b ≤ st.length ∧ ((st.drop b).map Value.category).sum ≤ 8 ∧ ((st.take b).map Value.category).sum ≤ T.2.2.2.2.2.2.2) ∧ (ce + T.2.1 ≤ I.1 ∧ sl + T.2.2.1 ≤ I.2.1) then
    (if T.2.2.2.1 = false ∨ (I.2.2.1 = true ∧ (lv.all fun q => xr_le ws.length q.2) = true ∧ ((st.drop b).all (xr_le ws.length)) = true) then
      (if v = false ∨ xr_rc (st.take b).reverse ws T.2.2.2.2.1 = true then
        xr_back k M C I (ce + T.2.1) (sl + T.2.2.1) pc lv (st.drop b) ws.length th (k (a, T.1, T.2, 0, 0, 0, lv_args 0 (st.take b).reverse, [], ws)) else none) else none) else none
/-- how a call is linked: 0 virtual, 1 virtual in the nest, 2 static, 3 static in the nest, 4 constructor, 5 constructor in the nest, 6 static with a table -/
def xr_vir (n : Nat) : Bool := match n with
  | 0 => true
  | 1 => true
  | 4 => true
  | 5 => true
  | _ => false
/-- the kinds of calls behind which a throw is followed -/
def xr_tk (n : Nat) : Bool := match n with
  | 0 => true
  | 2 => true
  | _ => false
def xr_inv (k : xr_K → Option xr_R) (tb : Nat → List xr_E × xr_M) (M : Nat) (C : List xr_E) (I : xr_M) (ce sl pc : Nat) (lv : List (Nat × Value)) (st : List Value) (ws : xr_W) (a b : Nat) (v : Value) : Option xr_R := match v with
  | .int x => xr_lib x.toNatClampNeg st ws (fun r w => k (M, C, I, ce, sl, pc + 3, lv, r, w))
  | .retAddr n => xr_call k M C I ce sl pc lv st ws a b (xr_vir n) (xr_tk n) (tb a)
  | _ => none
/-- an array of zeros -/
def xr_z (a n : Nat) : vp_A := match a with
  | 1 => (n, .inr (.inl fun _ => 0))
  | _ => (n, .inl fun _ => 0)
def xr_okn (lv : List (Nat × Value)) (st : List Value) (ws : xr_W) : Bool := (lv.all fun q => xr_le ws.length q.2) && ((st.all (xr_le ws.length)) && (ws.all (xr_wle ws.length)))
/-- default values of the fields of a class, the texts' exceptions, the types of the fields -/
abbrev xr_T : Type := (Nat → List Value) × (Nat → String) × (Nat → Nat → FieldType)
def xr_exec (sc : Nat × (Nat → Int32)) (tb : Nat → List xr_E × xr_M) (tt : xr_T) (k : xr_K → Option xr_R) (M : Nat) (C : List xr_E) (I : xr_M) (ce sl pc : Nat) (lv : List (Nat × Value)) (st : List Value) (ws : xr_W) (i : Instr) (a b : Nat) (v : Value) (tab : List (Int32 × Nat)) : Option xr_R := match i with
  | .iconst _ => k (M, C, I, ce, sl, pc + 1, lv, v :: st, ws)
  | .bipush _ => k (M, C, I, ce, sl, pc + 2, lv, v :: st, ws)
  | .sipush _ => k (M, C, I, ce, sl, pc + 3, lv, v :: st, ws)
  | .lconst _ => k (M, C, I, ce, sl, pc + 1, lv, v :: st, ws)
  | .ldc _ => k (M, C, I, ce, sl, pc + 2, lv, v :: st, ws)
  | .ldc2_w _ => k (M, C, I, ce, sl, pc + 3, lv, v :: st, ws)
  | .iload _ => xr_gi (xr_get a lv) (fun x => k (M, C, I, ce, sl, pc + 2, lv, .int x :: st, ws))
  | .iload_n _ => xr_gi (xr_get a lv) (fun x => k (M, C, I, ce, sl, pc + 1, lv, .int x :: st, ws))
  | .lload _ => xr_gl (xr_get a lv) (fun x => k (M, C, I, ce, sl, pc + 2, lv, .long x :: st, ws))
  | .lload_n _ => xr_gl (xr_get a lv) (fun x => k (M, C, I, ce, sl, pc + 1, lv, .long x :: st, ws))
  | .aload _ => xr_ga (xr_get a lv) (fun x => k (M, C, I, ce, sl, pc + 2, lv, .ref x :: st, ws))
  | .aload_n _ => xr_ga (xr_get a lv) (fun x => k (M, C, I, ce, sl, pc + 1, lv, .ref x :: st, ws))
  | .istore _ => xr_i1 st (fun x r => k (M, C, I, ce, sl, pc + 2, xr_put a (.int x) lv, r, ws))
  | .istore_n _ => xr_i1 st (fun x r => k (M, C, I, ce, sl, pc + 1, xr_put a (.int x) lv, r, ws))
  | .lstore _ => xr_l1 st (fun x r => k (M, C, I, ce, sl, pc + 2, xr_putL a (.long x) lv, r, ws))
  | .lstore_n _ => xr_l1 st (fun x r => k (M, C, I, ce, sl, pc + 1, xr_putL a (.long x) lv, r, ws))
  | .astore _ => xr_a1 st (fun x r => k (M, C, I, ce, sl, pc + 2, xr_put a (.ref x) lv, r, ws))
  | .astore_n _ => xr_a1 st (fun x r => k (M, C, I, ce, sl, pc + 1, xr_put a (.ref x) lv, r, ws))
  | .iinc _ _ => xr_gi (xr_get a lv) (fun x => xr_gi (some v) (fun n => k (M, C, I, ce, sl, pc + 3, xr_put a (.int (x + n)) lv, st, ws)))
  | .iadd => xr_ii st (fun x y => x + y) (fun r => k (M, C, I, ce, sl, pc + 1, lv, r, ws))
  | .isub => xr_ii st (fun x y => x - y) (fun r => k (M, C, I, ce, sl, pc + 1, lv, r, ws))
  | .imul => xr_ii st (fun x y => x * y) (fun r => k (M, C, I, ce, sl, pc + 1, lv, r, ws))
  | .iand => xr_ii st (fun x y => x &&& y) (fun r => k (M, C, I, ce, sl, pc + 1, lv, r, ws))
  | .idiv => xr_i2 st (fun x y r => if y = 0 then none else k (M, C, I, ce, sl, pc + 1, lv, .int (x / y) :: r, ws))
  | .irem => xr_i2 st (fun x y r => if y = 0 then none else k (M, C, I, ce, sl, pc + 1, lv, .int (x - x / y * y) :: r, ws))
  | .ineg => xr_i1 st (fun x r => k (M, C, I, ce, sl, pc + 1, lv, .int (-x) :: r, ws))
  | .ladd => xr_ll st (fun x y => x + y) (fun r => k (M, C, I, ce, sl, pc + 1, lv, r, ws))
  | .land => xr_ll st (fun x y => x &&& y) (fun r => k (M, C, I, ce, sl, pc + 1, lv, r, ws))
  | .lor => xr_ll st (fun x y => x ||| y) (fun r => k (M, C, I, ce, sl, pc + 1, lv, r, ws))
  | .lxor => xr_ll st (fun x y => x ^^^ y) (fun r => k (M, C, I, ce, sl, pc + 1, lv, r, ws))
  | .lshl => xr_li st (fun x y => x <<< (y.toInt64 &&& 63)) (fun r => k (M, C, I, ce, sl, pc + 1, lv, r, ws))
  | .lshr => xr_li st (fun x y => x >>> (y.toInt64 &&& 63)) (fun r => k (M, C, I, ce, sl, pc + 1, lv, r, ws))
  | .lushr => xr_li st (fun x y => (x.toUInt64 >>> (y.toInt64.toUInt64 &&& Int64.toUInt64 63)).toInt64) (fun r => k (M, C, I, ce, sl, pc + 1, lv, r, ws))
  | .lcmp => xr_l2 st (fun x y r => k (M, C, I, ce, sl, pc + 1, lv, .int (lg_cmp x y) :: r, ws))
  | .i2l => xr_i1 st (fun x r => k (M, C, I, ce, sl, pc + 1, lv, .long x.toInt64 :: r, ws))
  | .l2i => xr_l1 st (fun x r => k (M, C, I, ce, sl, pc + 1, lv, .int x.toInt32 :: r, ws))
  | .i2c => xr_i1 st (fun x r => k (M, C, I, ce, sl, pc + 1, lv, .int (x.toUInt32 % 65536).toInt32 :: r, ws))
  | .dup => match st with
    | x :: r => if x.category = 1 then k (M, C, I, ce, sl, pc + 1, lv, x :: x :: r, ws) else none
    | _ => none
  | .pop => match st with
    | x :: r => if x.category = 1 then k (M, C, I, ce, sl, pc + 1, lv, r, ws) else none
    | _ => none
  | .dup2 => match st with
    | x :: y :: r => if x.category = 1 ∧ y.category = 1 then k (M, C, I, ce, sl, pc + 1, lv, x :: y :: x :: y :: r, ws) else none
    | _ => none
  | .goto _ => k (M, C, I, ce, sl, a, lv, st, ws)
  | .ifCond c _ => xr_i1 st (fun x r => xr_c0 c x (k (M, C, I, ce, sl, a, lv, r, ws)) (k (M, C, I, ce, sl, pc + 3, lv, r, ws)))
  | .if_icmp c _ => xr_i2 st (fun x y r => xr_c2 c x y (k (M, C, I, ce, sl, a, lv, r, ws)) (k (M, C, I, ce, sl, pc + 3, lv, r, ws)))
  | .tableswitch _ _ _ _ => xr_i1 st (fun x r => xr_sw x (fun t => k (M, C, I, ce, sl, t, lv, r, ws)) a tab)
  | .getfield _ => xr_gf a b st ws (fun r => k (M, C, I, ce, sl, pc + 3, lv, r, ws))
  | .putfield _ => xr_pf (tt.2.2 a b) a b st ws (fun r w => k (M, C, I, ce, sl, pc + 3, lv, r, w))
  | .iaload => xr_ald sc 0 st ws (fun r => k (M, C, I, ce, sl, pc + 1, lv, r, ws))
  | .caload => xr_ald sc 2 st ws (fun r => k (M, C, I, ce, sl, pc + 1, lv, r, ws))
  | .baload => xr_ald sc 3 st ws (fun r => k (M, C, I, ce, sl, pc + 1, lv, r, ws))
  | .laload => xr_lald st ws (fun r => k (M, C, I, ce, sl, pc + 1, lv, r, ws))
  | .iastore => xr_ast 0 st ws (fun r w => k (M, C, I, ce, sl, pc + 1, lv, r, w))
  | .castore => xr_ast 2 st ws (fun r w => k (M, C, I, ce, sl, pc + 1, lv, r, w))
  | .bastore => xr_ast 3 st ws (fun r w => k (M, C, I, ce, sl, pc + 1, lv, r, w))
  | .lastore => xr_last st ws (fun r w => k (M, C, I, ce, sl, pc + 1, lv, r, w))
  | .arraylength => xr_len sc st ws (fun r => k (M, C, I, ce, sl, pc + 1, lv, r, ws))
  | .new _ => match b with
    | 0 => if (I.2.2.1 = true ∧ ce + 1 ≤ I.1 ∧ sl + (tt.1 a).length ≤ I.2.1) ∧ xr_okn lv st ws = true then
        k (M, C, I, ce + 1, sl + (tt.1 a).length, pc + 3, lv, .ref (ws.length + 2) :: st, ws ++ [.inr (a, tt.1 a)]) else none
    | _ => if (I.2.2.1 = false ∧ I.2.2.2.2.2.1 = []) ∧ (ce + 1 ≤ I.1 ∧ sl + 6 ≤ I.2.1) ∧ st = [] then some (.inr (tt.2.1 a), ws) else none
  | .newarray _ => xr_i1 st (fun n r => if (I.2.2.1 = true ∧ ce + 1 ≤ I.1 ∧ sl + n.toNatClampNeg ≤ I.2.1) ∧ (¬ n < 0 ∧ n.toNatClampNeg ≤ 65536) ∧ xr_okn lv r ws = true then
        k (M, C, I, ce + 1, sl + n.toNatClampNeg, pc + 2, lv, .ref (ws.length + 2) :: r, ws ++ [.inl (a, xr_z a n.toNatClampNeg)]) else none)
  | .ireturn => match st with
    | [.int x] => match I.2.2.2.2.1 with
      | some t => if fits t (.int x) = true then some (.inl (some (.int x)), ws) else none
      | none => none
    | _ => none
  | .lreturn => match st with
    | [.long x] => match I.2.2.2.2.1 with
      | some .long => some (.inl (some (.long x)), ws)
      | _ => none
    | _ => none
  | .return_ => match st with
    | [] => match I.2.2.2.2.1 with
      | none => some (.inl none, ws)
      | _ => none
    | _ => none
  | .invokevirtual _ => xr_inv k tb M C I ce sl pc lv st ws a b v
  | .invokespecial _ => xr_inv k tb M C I ce sl pc lv st ws a b v
  | .invokestatic _ => xr_inv k tb M C I ce sl pc lv st ws a b v
  | _ => none
def xr_step (sc : Nat × (Nat → Int32)) (tb : Nat → List xr_E × xr_M) (tt : xr_T) (k : xr_K → Option xr_R) : xr_K → Option xr_R
  | (M, C, I, ce, sl, pc, lv, st, ws) => match xr_find pc C with
    | none => none
    | some (_, i, a, b, v, tab, live) => xr_exec sc tb tt k M C I ce sl pc (xr_keep live lv) st ws i a b v tab
def xr_run (sc : Nat × (Nat → Int32)) (tb : Nat → List xr_E × xr_M) (tt : xr_T) (n : Nat) : xr_K → Option xr_R := Nat.rec (fun _ => none) (fun _ k => xr_step sc tb tt k) n
def xr_it (sc : Nat × (Nat → Int32)) (tb : Nat → List xr_E × xr_M) (tt : xr_T) (n : Nat) (k : xr_K → Option xr_R) : xr_K → Option xr_R := Nat.rec k (fun _ h => xr_step sc tb tt h) n
def xr_Ev (sc : Nat × (Nat → Int32)) (tb : Nat → List xr_E × xr_M) (tt : xr_T) (q : xr_K) (r : xr_R) : Prop := ∃ n, xr_run sc tb tt n q = some r
