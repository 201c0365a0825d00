/-! READ: arguments but lists. -/
section
variable {E T : Nat} {ch : Nat → Nat} {signs text : Nat → Int32} {b st : Nat → Nat} {o : Nat → Bool} {begin_ end_ first digits : Nat → Int32}
theorem wz_begins {c : Nat} (hc : c ≤ 126) : xf_rf_beginsNumber (Int32.ofNat c) = some (Int32.ofNat (if c = 45 ∨ wt_dg c = true then 1 else 0)) := by
  have ef0 : (fits .boolean (.int (Int32.ofNat 0)) = true) = True := by decide
  have ef1 : (fits .boolean (.int (Int32.ofNat 1)) = true) = True := by decide
  have d1 := wt_rD (c := c) (by omega)
  by_cases h : c = 45
  · rw [if_pos (Or.inl h)]
    simp (disch := omega) only [↓xf_rf_beginsNumber_18_s, ↓xf_rf_beginsNumber_13_s, ↓xf_rf_beginsNumber_s, wq_ltT, wq_ltF, wq_inT, wq_clamp, wq_eqF, wq_eqm, wq_meq, wq_add, wq_mul, wq_subT, eq_self, Bool.false_eq_true, ↓reduceIte, Option.bind_some, Sum.elim_inl, Sum.elim_inr, ↓wq_f0b, ↓wq_f1b, ↓wq_f2b, ↓wq_r0b, ↓wq_r1b, ↓Option.bind_some, h, ef1]
  · by_cases hd : wt_dg c = true
    · rw [if_pos (Or.inr hd)]
      rw [if_pos hd] at d1
      simp (disch := omega) only [↓xf_rf_beginsNumber_18_s, ↓xf_rf_beginsNumber_13_s, ↓xf_rf_beginsNumber_s, wq_ltT, wq_ltF, wq_inT, wq_clamp, wq_eqF, wq_eqm, wq_meq, wq_add, wq_mul, wq_subT, eq_self, Bool.false_eq_true, ↓reduceIte, Option.bind_some, Sum.elim_inl, Sum.elim_inr, ↓wq_f0b, ↓wq_f1b, ↓wq_f2b, ↓wq_r0b, ↓wq_r1b, ↓Option.bind_some, ↓wq_b d1, ef1]
    · rw [if_neg (fun hh => hh.elim h hd)]
      rw [if_neg hd] at d1
      simp (disch := omega) only [↓xf_rf_beginsNumber_18_s, ↓xf_rf_beginsNumber_13_s, ↓xf_rf_beginsNumber_s, wq_ltT, wq_ltF, wq_inT, wq_clamp, wq_eqF, wq_eqm, wq_meq, wq_add, wq_mul, wq_subT, eq_self, Bool.false_eq_true, ↓reduceIte, Option.bind_some, Sum.elim_inl, Sum.elim_inr, ↓wq_f0b, ↓wq_f1b, ↓wq_f2b, ↓wq_r0b, ↓wq_r1b, ↓Option.bind_some, ↓wq_b d1, ef0]
theorem wz_beg_iff {i : Nat} : (wt_a ch T b i = 45 ∨ wt_dg (wt_a ch T b i) = true) ↔ (wt_a ch T b i = 45 ∨ (i < T ∧ wt_dg (ch (b i)) = true)) := by
  unfold wt_a
  by_cases h : i < T
  · rw [if_pos h]
    constructor
    · rintro (h1 | h1)
      · exact Or.inl h1
      · exact Or.inr ⟨h, h1⟩
    · rintro (h1 | h1)
      · exact Or.inl h1
      · exact Or.inr h1.2
  · rw [if_neg h]
    constructor
    · rintro (h1 | h1)
      · exact absurd h1 (by omega)
      · exact absurd h1 (by decide)
    · rintro (h1 | h1)
      · exact absurd h1 (by omega)
      · exact absurd h1.1 h
theorem wz_F1 {x u : Nat} {sort value start items sorts values ritems value' items' values' ritems' : Nat → Int32} (h1 : ∀ y, y ≠ x → value' y = value y) (h2 : ∀ y, y < u → items' y = items y) (h3 : ∀ y, y ≠ 320 + x → values' y = values y) (h4 : ∀ y, y < 6400 + 20 * x ∨ 6400 + 20 * x + 20 ≤ y → ritems' y = ritems y) (t t' sv : Int32) : wz_F x u sort value start items sorts values ritems (upd sort x t) value' (upd start x sv) items' (upd sorts (320 + x) t') values' ritems' :=
  ⟨fun y hy => ⟨wq_upd2 hy, h1 y hy, wq_upd2 hy⟩, h2, fun y hy => ⟨wq_upd2 hy, h3 y hy⟩, h4⟩
theorem wz_v0 {t : Nat} {v : Int32} {it : Nat → Int32} (h : (t = 0 ∧ ¬ v < -999999999 ∧ ¬ Int32.ofNat 999999999 < v) ∨ (t = 2 ∧ ∃ w, 1 ≤ w ∧ w ≤ 999 ∧ v = Int32.ofNat w) ∨ (t = 6 ∧ v = Int32.ofNat 0)) : wz_v t 0 v it := by
  refine ⟨by omega, by omega, fun e => ⟨rfl, ?_⟩, fun e => absurd e (by omega), fun e => ⟨rfl, ?_⟩, fun e => absurd e (by omega), fun e => absurd e (by omega), fun e => absurd e (by omega), fun e => ⟨rfl, ?_⟩⟩
  · rcases h with h | h | h
    · exact h.2
    · omega
    · omega
  · rcases h with h | h | h
    · omega
    · exact h.2
    · omega
  · rcases h with h | h | h
    · omega
    · omega
    · exact h.2
/-- none -/
theorem wz_arg36 (hX : wt_X E ch signs text) (hK : wt_Tok ch E false T b st o begin_ end_ first digits) {N : Nat} (hN : 1300 ≤ N) {i p u x : Nat} (hi : i ≤ T) (h1 : st i ≤ p) (h2 : p ≤ b i) (hu : u ≤ st i) (hx : x < 320) (from_ : Int32) (sort value start items sorts values ritems : Nat → Int32) (h36 : wt_a ch T b i = 36) : wz_Res T x u i b st sort value start items sorts values ritems (xf_mr_readArgument begin_ digits end_ first (Int32.ofNat E) signs (Int32.ofNat T) N items sort start (Int32.ofNat u) value (Int32.ofNat i) (Int32.ofNat x)) (xf_rf_argument1 (Int32.ofNat E) text N (Int32.ofNat p) (-1) from_ ritems sorts values (Int32.ofNat (320 + x))) := by
  have hE := hX.1
  have hTE := hK.2.1
  have hb := wt_b_le hK hi
  have ah := wt_ahead hX hK hi
  have pk := wt_peek hX hK hN hi h1 h2
  rw [h36] at ah pk
  have bg := wz_begins (c := 36) (by omega)
  rw [if_neg (by decide)] at bg
  obtain ⟨hiT, _, s1, s2⟩ := wz_sgn hK hi (by omega) h36 (by decide) (by decide) (by omega)
  have pt := wz_putm hx (Int32.ofNat u) sort start value (Int32.ofNat 6) (Int32.ofNat 0)
  refine ⟨items, upd sort x (Int32.ofNat 6), upd start x (Int32.ofNat u), upd value x (Int32.ofNat 0), upd sorts (320 + x) (Int32.ofNat 6), upd values (320 + x) (Int32.ofNat 0), ritems, Int32.ofNat u, from_, i + 1, by omega, wz_F1 (fun y hy => wq_upd2 hy) (fun _ _ => rfl) (fun y hy => wq_upd2 hy) (fun _ _ => rfl) _ _ _, Or.inl ⟨u, 6, 0, u, b i + 1, by omega, by omega, by omega, by omega, by omega, by omega, ⟨wq_upd1, wq_upd1, by rw [wq_upd1, wq_upd1], wq_upd1, by omega, fun y hy => absurd hy (by omega), wz_v0 (Or.inr (Or.inr ⟨rfl, wq_upd1⟩))⟩, ?_, ?_⟩⟩
  · simp (disch := omega) only [↓xf_mr_readArgument_s, wq_ltT, wq_ltF, wq_inT, wq_clamp, wq_eqF, wq_eqm, wq_meq, wq_add, wq_mul, wq_subT, eq_self, Bool.false_eq_true, ↓reduceIte, Option.bind_some, Sum.elim_inl, Sum.elim_inr, ↓wq_f0b, ↓wq_f1b, ↓wq_f2b, ↓wq_r0b, ↓wq_r1b, ↓Option.bind_some, ↓wq_b ah, ↓xf_wd_step_s, ↓wq_b pt]
  · simp (disch := omega) only [↓xf_rf_argument1_178_s, ↓xf_rf_argument1_s, wq_ltT, wq_ltF, wq_inT, wq_clamp, wq_eqF, wq_eqm, wq_meq, wq_add, wq_mul, wq_subT, eq_self, Bool.false_eq_true, ↓reduceIte, Option.bind_some, Sum.elim_inl, Sum.elim_inr, ↓wq_f0b, ↓wq_f1b, ↓wq_f2b, ↓wq_r0b, ↓wq_r1b, ↓Option.bind_some, ↓wq_b pk, ↓wq_b bg]
/-- a reference -/
theorem wz_arg35 (hX : wt_X E ch signs text) (hK : wt_Tok ch E false T b st o begin_ end_ first digits) {N : Nat} (hN : 1300 ≤ N) {i p u x : Nat} (hi : i ≤ T) (h1 : st i ≤ p) (h2 : p ≤ b i) (hu : u ≤ st i) (hx : x < 320) (from_ : Int32) (sort value start items sorts values ritems : Nat → Int32) (h35 : wt_a ch T b i = 35) : wz_Res T x u i b st sort value start items sorts values ritems (xf_mr_readArgument begin_ digits end_ first (Int32.ofNat E) signs (Int32.ofNat T) N items sort start (Int32.ofNat u) value (Int32.ofNat i) (Int32.ofNat x)) (xf_rf_argument1 (Int32.ofNat E) text N (Int32.ofNat p) (-1) from_ ritems sorts values (Int32.ofNat (320 + x))) := by
  have ef0 : (fits .boolean (.int (Int32.ofNat 0)) = true) = True := by decide
  have ef1 : (fits .boolean (.int (Int32.ofNat 1)) = true) = True := by decide
  have hE := hX.1
  have hTE := hK.2.1
  have hb := wt_b_le hK hi
  have ah := wt_ahead hX hK hi
  have pk := wt_peek hX hK hN hi h1 h2
  rw [h35] at ah pk
  have bg := wz_begins (c := 35) (by omega)
  rw [if_neg (by decide)] at bg
  have hs := wt_st_le hK hi
  rcases wz_ref hX hK hN (i := i) (p := b i) hi hs (Nat.le_refl _) from_ with ⟨w, fr, _, l1, l2, l3, l4, l5, l6⟩ | ⟨i', v, at_, fr, l1, l5, l6, _⟩
  · have hs2 := wt_st_le hK (i := i + 2) l1
    have pt := wz_putm hx (Int32.ofNat u) sort start value (Int32.ofNat 2) (Int32.ofNat w)
    have n2 := wz_m2 (a := w) (by omega)
    refine ⟨items, upd sort x (Int32.ofNat 2), upd start x (Int32.ofNat u), upd value x (Int32.ofNat w), upd sorts (320 + x) (Int32.ofNat 2), upd (upd values (320 + x) (Int32.ofNat 0)) (320 + x) (Int32.ofNat w), ritems, Int32.ofNat u, fr, i + 2, l1, wz_F1 (fun y hy => wq_upd2 hy) (fun _ _ => rfl) (fun y hy => by rw [wq_upd2 hy, wq_upd2 hy]) (fun _ _ => rfl) _ _ _, Or.inl ⟨u, 2, 0, u, st (i + 2), by omega, by omega, by omega, by omega, by omega, by omega, ⟨wq_upd1, wq_upd1, by rw [wq_upd1, wq_upd1], wq_upd1, by omega, fun y hy => absurd hy (by omega), wz_v0 (Or.inr (Or.inl ⟨rfl, w, l3, l4, wq_upd1⟩))⟩, ?_, ?_⟩⟩
    · simp (disch := omega) only [↓xf_mr_readArgument_136_s, ↓xf_mr_readArgument_119_s, ↓xf_mr_readArgument_103_s, ↓xf_mr_readArgument_81_s, ↓xf_mr_readArgument_s, wq_ltT, wq_ltF, wq_inT, wq_clamp, wq_eqF, wq_eqm, wq_meq, wq_add, wq_mul, wq_subT, eq_self, Bool.false_eq_true, ↓reduceIte, Option.bind_some, Sum.elim_inl, Sum.elim_inr, ↓wq_f0b, ↓wq_f1b, ↓wq_f2b, ↓wq_r0b, ↓wq_r1b, ↓Option.bind_some, ↓wq_b ah, ↓wq_b l5, ↓wq_b pt, n2, ef1]
    · simp (disch := omega) only [↓xf_rf_argument1_178_s, ↓xf_rf_argument1_s, wq_ltT, wq_ltF, wq_inT, wq_clamp, wq_eqF, wq_eqm, wq_meq, wq_add, wq_mul, wq_subT, eq_self, Bool.false_eq_true, ↓reduceIte, Option.bind_some, Sum.elim_inl, Sum.elim_inr, ↓wq_f0b, ↓wq_f1b, ↓wq_f2b, ↓wq_r0b, ↓wq_r1b, ↓Option.bind_some, ↓wq_b pk, ↓wq_b bg, ↓wq_b l6]
  · have pt := wz_putm hx (Int32.ofNat u) sort start value (Int32.ofNat 2) (-2000000000)
    refine ⟨items, upd sort x (Int32.ofNat 2), upd start x (Int32.ofNat u), upd value x (-2000000000), upd sorts (320 + x) (Int32.ofNat 2), upd (upd values (320 + x) (Int32.ofNat 0)) (320 + x) v, ritems, Int32.ofNat u, fr, i', l1, wz_F1 (fun y hy => wq_upd2 hy) (fun _ _ => rfl) (fun y hy => by rw [wq_upd2 hy, wq_upd2 hy]) (fun _ _ => rfl) _ _ _, Or.inr ⟨at_, ?_, ?_⟩⟩
    · simp (disch := omega) only [↓xf_mr_readArgument_136_s, ↓xf_mr_readArgument_119_s, ↓xf_mr_readArgument_103_s, ↓xf_mr_readArgument_81_s, ↓xf_mr_readArgument_s, wq_ltT, wq_ltF, wq_inT, wq_clamp, wq_eqF, wq_eqm, wq_meq, wq_add, wq_mul, wq_subT, eq_self, Bool.false_eq_true, ↓reduceIte, Option.bind_some, Sum.elim_inl, Sum.elim_inr, ↓wq_f0b, ↓wq_f1b, ↓wq_f2b, ↓wq_r0b, ↓wq_r1b, ↓Option.bind_some, ↓wq_b ah, ↓wq_b l5, ↓wq_b pt, ef0]
    · simp (disch := omega) only [↓xf_rf_argument1_178_s, ↓xf_rf_argument1_s, wq_ltT, wq_ltF, wq_inT, wq_clamp, wq_eqF, wq_eqm, wq_meq, wq_add, wq_mul, wq_subT, eq_self, Bool.false_eq_true, ↓reduceIte, Option.bind_some, Sum.elim_inl, Sum.elim_inr, ↓wq_f0b, ↓wq_f1b, ↓wq_f2b, ↓wq_r0b, ↓wq_r1b, ↓Option.bind_some, ↓wq_b pk, ↓wq_b bg, ↓wq_b l6]
/-- a number, or what is no argument -/
theorem wz_argN (hX : wt_X E ch signs text) (hK : wt_Tok ch E false T b st o begin_ end_ first digits) {N : Nat} (hN : 1300 ≤ N) {i p u x : Nat} (hi : i ≤ T) (h1 : st i ≤ p) (h2 : p ≤ b i) (hu : u ≤ st i) (hx : x < 320) (from_ : Int32) (sort value start items sorts values ritems : Nat → Int32) (n36 : ¬ wt_a ch T b i = 36) (n39 : ¬ wt_a ch T b i = 39) (n46 : ¬ wt_a ch T b i = 46) (n40 : ¬ wt_a ch T b i = 40) (n35 : ¬ wt_a ch T b i = 35) : wz_Res T x u i b st sort value start items sorts values ritems (xf_mr_readArgument begin_ digits end_ first (Int32.ofNat E) signs (Int32.ofNat T) N items sort start (Int32.ofNat u) value (Int32.ofNat i) (Int32.ofNat x)) (xf_rf_argument1 (Int32.ofNat E) text N (Int32.ofNat p) (-1) from_ ritems sorts values (Int32.ofNat (320 + x))) := by
  have ef0 : (fits .boolean (.int (Int32.ofNat 0)) = true) = True := by decide
  have ef1 : (fits .boolean (.int (Int32.ofNat 1)) = true) = True := by decide
  have m1 : ((-1 : Int32) = -1) = True := eq_true rfl
  have hE := hX.1
  have hTE := hK.2.1
  have hb := wt_b_le hK hi
  have ah := wt_ahead hX hK hi
  have ab := wt_a_lt hX hK i
  have pk := wt_peek hX hK hN hi h1 h2
  have bg := wz_begins (c := wt_a ch T b i) ab
  have hs := wt_st_le hK hi
  rcases wz_num hX hK hN (i := i) (p := b i) hi hs (Nat.le_refl _) from_ with ⟨i', v, fr, l0, l1, l2, l3, l4, l5, l6, l7, l8⟩ | ⟨i', v, at_, fr, l1, l5, l6, l7⟩
  · rw [if_pos (wz_beg_iff.mpr l0)] at bg
    have hs2 := wt_st_le hK (i := i') l2
    have pt := wz_putm hx (Int32.ofNat u) sort start value (Int32.ofNat 0) v
    refine ⟨items, upd sort x (Int32.ofNat 0), upd start x (Int32.ofNat u), upd value x v, upd sorts (320 + x) (Int32.ofNat 0), upd (upd values (320 + x) (Int32.ofNat 0)) (320 + x) v, ritems, Int32.ofNat u, fr, i', l2, wz_F1 (fun y hy => wq_upd2 hy) (fun _ _ => rfl) (fun y hy => by rw [wq_upd2 hy, wq_upd2 hy]) (fun _ _ => rfl) _ _ _, Or.inl ⟨u, 0, 0, u, st i', by omega, by omega, by omega, by omega, by omega, by omega, ⟨wq_upd1, wq_upd1, by rw [wq_upd1, wq_upd1], wq_upd1, by omega, fun y hy => absurd hy (by omega), wz_v0 (Or.inl ⟨rfl, by rw [wq_upd1]; exact l4, by rw [wq_upd1]; exact l5⟩)⟩, ?_, ?_⟩⟩
    · simp (disch := omega) only [↓xf_mr_readArgument_136_s, ↓xf_mr_readArgument_119_s, ↓xf_mr_readArgument_103_s, ↓xf_mr_readArgument_81_s, ↓xf_mr_readArgument_s, wq_ltT, wq_ltF, wq_inT, wq_clamp, wq_eqF, wq_eqm, wq_meq, wq_add, wq_mul, wq_subT, eq_self, Bool.false_eq_true, ↓reduceIte, Option.bind_some, Sum.elim_inl, Sum.elim_inr, ↓wq_f0b, ↓wq_f1b, ↓wq_f2b, ↓wq_r0b, ↓wq_r1b, ↓Option.bind_some, ↓wq_b ah, ↓wq_b l7, ↓wq_b pt, l6, ef1]
    · simp (disch := omega) only [↓xf_rf_argument1_178_s, ↓xf_rf_argument1_s, wq_ltT, wq_ltF, wq_inT, wq_clamp, wq_eqF, wq_eqm, wq_meq, wq_add, wq_mul, wq_subT, eq_self, Bool.false_eq_true, ↓reduceIte, Option.bind_some, Sum.elim_inl, Sum.elim_inr, ↓wq_f0b, ↓wq_f1b, ↓wq_f2b, ↓wq_r0b, ↓wq_r1b, ↓Option.bind_some, ↓wq_b pk, ↓wq_b bg, ↓wq_b l8]
  · have pt := wz_putm hx (Int32.ofNat u) sort start value (Int32.ofNat 0) (-2000000000)
    have cl : xf_mr_readArgument begin_ digits end_ first (Int32.ofNat E) signs (Int32.ofNat T) N items sort start (Int32.ofNat u) value (Int32.ofNat i) (Int32.ofNat x) = some (Int32.ofNat 0, items, upd sort x (Int32.ofNat 0), upd start x (Int32.ofNat u), Int32.ofNat u, upd value x (-2000000000), Int32.ofNat i') := by
      simp (disch := omega) only [↓xf_mr_readArgument_136_s, ↓xf_mr_readArgument_119_s, ↓xf_mr_readArgument_103_s, ↓xf_mr_readArgument_81_s, ↓xf_mr_readArgument_s, wq_ltT, wq_ltF, wq_inT, wq_clamp, wq_eqF, wq_eqm, wq_meq, wq_add, wq_mul, wq_subT, eq_self, Bool.false_eq_true, ↓reduceIte, Option.bind_some, Sum.elim_inl, Sum.elim_inr, ↓wq_f0b, ↓wq_f1b, ↓wq_f2b, ↓wq_r0b, ↓wq_r1b, ↓Option.bind_some, ↓wq_b ah, ↓wq_b l5, ↓wq_b pt, ef0]
    by_cases hbg : wt_a ch T b i = 45 ∨ wt_dg (wt_a ch T b i) = true
    · rw [if_pos hbg] at bg
      refine ⟨items, upd sort x (Int32.ofNat 0), upd start x (Int32.ofNat u), upd value x (-2000000000), upd sorts (320 + x) (Int32.ofNat 0), upd (upd values (320 + x) (Int32.ofNat 0)) (320 + x) v, ritems, Int32.ofNat u, fr, i', l1, wz_F1 (fun y hy => wq_upd2 hy) (fun _ _ => rfl) (fun y hy => by rw [wq_upd2 hy, wq_upd2 hy]) (fun _ _ => rfl) _ _ _, Or.inr ⟨at_, cl, ?_⟩⟩
      simp (disch := omega) only [↓xf_rf_argument1_178_s, ↓xf_rf_argument1_s, wq_ltT, wq_ltF, wq_inT, wq_clamp, wq_eqF, wq_eqm, wq_meq, wq_add, wq_mul, wq_subT, eq_self, Bool.false_eq_true, ↓reduceIte, Option.bind_some, Sum.elim_inl, Sum.elim_inr, ↓wq_f0b, ↓wq_f1b, ↓wq_f2b, ↓wq_r0b, ↓wq_r1b, ↓Option.bind_some, ↓wq_b pk, ↓wq_b bg, ↓wq_b l6]
    · have ei : i' = i := l7 (fun hh => hbg (Or.inl hh)) (fun hh => hbg (wz_beg_iff.mpr (Or.inr hh)))
      rw [if_neg hbg] at bg
      subst ei
      refine ⟨items, upd sort x (Int32.ofNat 0), upd start x (Int32.ofNat u), upd value x (-2000000000), sorts, upd values (320 + x) (Int32.ofNat 0), ritems, Int32.ofNat u, from_, i', l1, ⟨fun y hy => ⟨wq_upd2 hy, wq_upd2 hy, wq_upd2 hy⟩, fun _ _ => rfl, fun y hy => ⟨rfl, wq_upd2 hy⟩, fun _ _ => rfl⟩, Or.inr ⟨Int32.ofNat (b i'), cl, ?_⟩⟩
      simp (disch := omega) only [↓xf_rf_argument1_178_s, ↓xf_rf_argument1_s, wq_ltT, wq_ltF, wq_inT, wq_clamp, wq_eqF, wq_eqm, wq_meq, wq_add, wq_mul, wq_subT, eq_self, Bool.false_eq_true, ↓reduceIte, Option.bind_some, Sum.elim_inl, Sum.elim_inr, ↓wq_f0b, ↓wq_f1b, ↓wq_f2b, ↓wq_r0b, ↓wq_r1b, ↓Option.bind_some, ↓wq_b pk, ↓wq_b bg, ↓xf_rf_wrongAt_13_s, ↓xf_rf_wrongAt_s, m1]
/-- a text -/
theorem wz_arg39 (hX : wt_X E ch signs text) (hK : wt_Tok ch E false T b st o begin_ end_ first digits) {N : Nat} (hN : 1300 ≤ N) {i p u x : Nat} (hi : i ≤ T) (h1 : st i ≤ p) (h2 : p ≤ b i) (hu : u ≤ st i) (hx : x < 320) (from_ : Int32) (sort value start items sorts values ritems : Nat → Int32) (h39 : wt_a ch T b i = 39) : wz_Res T x u i b st sort value start items sorts values ritems (xf_mr_readArgument begin_ digits end_ first (Int32.ofNat E) signs (Int32.ofNat T) N items sort start (Int32.ofNat u) value (Int32.ofNat i) (Int32.ofNat x)) (xf_rf_argument1 (Int32.ofNat E) text N (Int32.ofNat p) (-1) from_ ritems sorts values (Int32.ofNat (320 + x))) := by
  have ef0 : (fits .boolean (.int (Int32.ofNat 0)) = true) = True := by decide
  have ef1 : (fits .boolean (.int (Int32.ofNat 1)) = true) = True := by decide
  have hE := hX.1
  have hTE := hK.2.1
  have hb := wt_b_le hK hi
  have ah := wt_ahead hX hK hi
  have pk := wt_peek hX hK hN hi h1 h2
  rw [h39] at ah pk
  have bg := wz_begins (c := 39) (by omega)
  rw [if_neg (by decide)] at bg
  have hiT : i < T := by
    apply Classical.byContradiction
    intro hc
    have e : wt_a ch T b i = 0 := if_neg hc
    omega
  have ea : wt_a ch T b i = ch (b i) := if_pos hiT
  obtain ⟨g1, g2, g3, g4, g5, g6, g7, g8, g9, g10⟩ := hK.1.2 i hiT
  have we : wt_e ch E (o i) (b i) = wt_tx ch E (b i + 1) := by
    unfold wt_e
    have l0 : ¬ wt_lt (ch (b i)) = true := fun hh => by
      have := wt_lt_iff.mp hh
      omega
    rw [if_neg (fun hh => l0 hh.2), if_pos (by omega)]
  rw [we] at g5 g8
  obtain ⟨ri, at', k', f', w1, w2, w3, w4⟩ := wz_writing hX (N := N) (a := 320 + x) (B := b i) (by omega) (by omega) (Int32.ofNat (b i)) sorts (upd values (320 + x) (Int32.ofNat 0)) E (b i + 1) 0 N ritems (by omega) (by omega) (by omega) (by omega)
  have rw_ : xf_rf_writing (Int32.ofNat E) text N (Int32.ofNat (b i)) (-1) ritems sorts (upd values (320 + x) (Int32.ofNat 0)) (Int32.ofNat (320 + x)) = some ((), Int32.ofNat at', f', ri, upd sorts (320 + x) (Int32.ofNat 1), upd (upd values (320 + x) (Int32.ofNat 0)) (320 + x) (Int32.ofNat k')) := by
    rw [← w4, xf_rf_writing_s, wq_add]
  have rres : xf_rf_argument1 (Int32.ofNat E) text N (Int32.ofNat p) (-1) from_ ritems sorts values (Int32.ofNat (320 + x)) = some ((), Int32.ofNat at', f', from_, ri, upd sorts (320 + x) (Int32.ofNat 1), upd (upd values (320 + x) (Int32.ofNat 0)) (320 + x) (Int32.ofNat k')) := by
    simp (disch := omega) only [↓xf_rf_argument1_178_s, ↓xf_rf_argument1_s, wq_ltT, wq_ltF, wq_inT, wq_clamp, wq_eqF, wq_eqm, wq_meq, wq_add, wq_mul, wq_subT, eq_self, Bool.false_eq_true, ↓reduceIte, Option.bind_some, Sum.elim_inl, Sum.elim_inr, ↓wq_f0b, ↓wq_f1b, ↓wq_f2b, ↓wq_r0b, ↓wq_r1b, ↓Option.bind_some, ↓wq_b pk, ↓wq_b bg, ↓wq_b rw_]
  have fr4 : ∀ y, y < 6400 + 20 * x ∨ 6400 + 20 * x + 20 ≤ y → ri y = ritems y := fun y hy => w1 y (by omega)
  have bad : xf_mr_readArgument begin_ digits end_ first (Int32.ofNat E) signs (Int32.ofNat T) N items sort start (Int32.ofNat u) value (Int32.ofNat i) (Int32.ofNat x) = some (Int32.ofNat 0, items, sort, start, Int32.ofNat u, value, Int32.ofNat i) → f' = Int32.ofNat (b i) → wz_Res T x u i b st sort value start items sorts values ritems (xf_mr_readArgument begin_ digits end_ first (Int32.ofNat E) signs (Int32.ofNat T) N items sort start (Int32.ofNat u) value (Int32.ofNat i) (Int32.ofNat x)) (xf_rf_argument1 (Int32.ofNat E) text N (Int32.ofNat p) (-1) from_ ritems sorts values (Int32.ofNat (320 + x))) := by
    intro c1 f1
    rw [c1, rres, f1]
    exact ⟨items, sort, start, value, _, _, ri, Int32.ofNat u, from_, i, hi, ⟨fun _ _ => ⟨rfl, rfl, rfl⟩, fun _ _ => rfl, fun y hy => ⟨wq_upd2 hy, by rw [wq_upd2 hy, wq_upd2 hy]⟩, fr4⟩, Or.inr ⟨_, rfl, rfl⟩⟩
  cases htx : wt_tx ch E (b i + 1) with
  | none =>
    rw [htx] at g8
    have g8' : end_ i = -1 := g8
    apply bad
    · simp (disch := omega) only [↓xf_mr_readArgument_s, ↓xf_mr_readText_19_s, ↓xf_mr_readText_s, ↓xf_wd_textSize_22_s, ↓xf_wd_textSize_72_s, ↓xf_wd_textSize_38_s, ↓xf_wd_textSize_s, wq_ltT, wq_ltF, wq_inT, wq_clamp, wq_eqF, wq_eqm, wq_meq, wq_add, wq_mul, wq_subT, eq_self, Bool.false_eq_true, ↓reduceIte, Option.bind_some, Sum.elim_inl, Sum.elim_inr, ↓wq_f0b, ↓wq_f1b, ↓wq_f2b, ↓wq_r0b, ↓wq_r1b, ↓Option.bind_some, ↓wq_b ah, g8', ef0]
    · exact w3 (fun r hr => by rw [htx] at hr; exact absurd hr (by simp))
  | some r =>
    rw [htx] at g5 g8
    have g5' : st (i + 1) = r := g5
    have g8' : end_ i = Int32.ofNat r := g8
    have rl := wt_tx_le E (b i + 1) r (by omega) htx
    have nl := wz_n_le E (b i + 1) r (by omega) htx
    have tz := wz_tsize (begin_ := begin_) (first := first) (T := T) hX (N := N) (i := i) (by omega) g8' rl.2 E (b i + 1) 0 N (by omega) htx (by omega) (by omega)
    have tz' : xf_wd_textSize begin_ end_ first (Int32.ofNat i) (Int32.ofNat E) signs (Int32.ofNat T) N = some (Int32.ofNat (0 + wz_n ch E E (b i + 1))) := by
      rw [← tz, xf_wd_textSize_s]
      simp (disch := omega) only [wq_ltT, wq_ltF, wq_inT, wq_clamp, wq_eqF, wq_eqm, wq_meq, wq_add, wq_mul, wq_subT, eq_self, Bool.false_eq_true, ↓reduceIte, Option.bind_some, Sum.elim_inl, Sum.elim_inr, ↓wq_f0b, ↓wq_f1b, ↓wq_f2b, ↓wq_r0b, ↓wq_r1b, ↓Option.bind_some, ↓wq_b ah, g8', g7]
    rw [Nat.zero_add] at tz'
    by_cases h20 : 20 < wz_n ch E E (b i + 1)
    · apply bad
      · simp (disch := omega) only [↓xf_mr_readArgument_s, ↓xf_mr_readText_19_s, ↓xf_mr_readText_s, wq_ltT, wq_ltF, wq_inT, wq_clamp, wq_eqF, wq_eqm, wq_meq, wq_add, wq_mul, wq_subT, eq_self, Bool.false_eq_true, ↓reduceIte, Option.bind_some, Sum.elim_inl, Sum.elim_inr, ↓wq_f0b, ↓wq_f1b, ↓wq_f2b, ↓wq_r0b, ↓wq_r1b, ↓Option.bind_some, ↓wq_b ah, ↓wq_b tz', ef0]
      · exact w3 (fun r' hr => by omega)
    · obtain ⟨q1, q2, q3, q4⟩ := w2 r htx (by omega)
      have pt := wz_putm hx (Int32.ofNat u) sort start value (Int32.ofNat 1) (Int32.ofNat 0)
      obtain ⟨items', value', t1, t2, t3, t4, t5⟩ := wz_take (begin_ := begin_) (first := first) (T := T) hX (N := N) (i := i) (by omega) hx g8' rl.2 E (b i + 1) 0 u N items (upd value x (Int32.ofNat 0)) (by omega) htx (by omega) (by omega) wq_upd1
      have tt : xf_wd_takeText begin_ end_ first (Int32.ofNat E) signs (Int32.ofNat T) N items (Int32.ofNat u) (upd value x (Int32.ofNat 0)) (Int32.ofNat i) (Int32.ofNat x) = some ((), items', Int32.ofNat (u + wz_n ch E E (b i + 1)), value', Int32.ofNat (i + 1)) := by
        rw [← t5, xf_wd_takeText_s]
        simp (disch := omega) only [wq_ltT, wq_ltF, wq_inT, wq_clamp, wq_eqF, wq_eqm, wq_meq, wq_add, wq_mul, wq_subT, eq_self, Bool.false_eq_true, ↓reduceIte, Option.bind_some, Sum.elim_inl, Sum.elim_inr, ↓wq_f0b, ↓wq_f1b, ↓wq_f2b, ↓wq_r0b, ↓wq_r1b, ↓Option.bind_some, ↓wq_b ah, g7]
      have s2 := wt_st_le hK (i := i + 1) (by omega)
      rw [rres, q1, q2]
      refine ⟨items', upd sort x (Int32.ofNat 1), upd start x (Int32.ofNat u), value', _, _, ri, Int32.ofNat u, from_, i + 1, by omega, wz_F1 (fun y hy => by rw [t3 y hy, wq_upd2 hy]) t1 (fun y hy => by rw [wq_upd2 hy, wq_upd2 hy]) fr4 _ _ _, Or.inl ⟨u + wz_n ch E E (b i + 1), 1, wz_n ch E E (b i + 1), u, r, by omega, by omega, by omega, by omega, by omega, by omega, ⟨wq_upd1, wq_upd1, by rw [wq_upd1, t4, q3], wq_upd1, by omega, fun y hy => ?_, ?_⟩, ?_, rfl⟩⟩
      · rw [t2 y hy, ← q4 y hy, show 20 * (320 + x) + 0 + y = 6400 + 20 * x + y by omega]
      · refine ⟨by omega, by omega, fun e => absurd e (by omega), fun _ => ⟨by rw [wq_upd1, q3, Nat.zero_add], fun y hy => ?_⟩, fun e => absurd e (by omega), fun e => absurd e (by omega), fun e => absurd e (by omega), fun e => absurd e (by omega), fun e => absurd e (by omega)⟩
        have gi := wz_g_in hX E (b i + 1) r (by omega) htx y hy
        refine ⟨_, gi.1, gi.2, ?_⟩
        rw [← q4 y hy, show 20 * (320 + x) + 0 + y = 6400 + 20 * x + y by omega]
      · simp (disch := omega) only [↓xf_mr_readArgument_s, ↓xf_mr_readText_19_s, ↓xf_mr_readText_s, wq_ltT, wq_ltF, wq_inT, wq_clamp, wq_eqF, wq_eqm, wq_meq, wq_add, wq_mul, wq_subT, eq_self, Bool.false_eq_true, ↓reduceIte, Option.bind_some, Sum.elim_inl, Sum.elim_inr, ↓wq_f0b, ↓wq_f1b, ↓wq_f2b, ↓wq_r0b, ↓wq_r1b, ↓Option.bind_some, ↓wq_b ah, ↓wq_b tz', ↓wq_b pt, ↓wq_b tt, ef1]
/-- a word -/
theorem wz_arg46 (hX : wt_X E ch signs text) (hK : wt_Tok ch E false T b st o begin_ end_ first digits) {N : Nat} (hN : 1300 ≤ N) {i p u x : Nat} (hi : i ≤ T) (h1 : st i ≤ p) (h2 : p ≤ b i) (hu : u ≤ st i) (hx : x < 320) (from_ : Int32) (sort value start items sorts values ritems : Nat → Int32) (h46 : wt_a ch T b i = 46) : wz_Res T x u i b st sort value start items sorts values ritems (xf_mr_readArgument begin_ digits end_ first (Int32.ofNat E) signs (Int32.ofNat T) N items sort start (Int32.ofNat u) value (Int32.ofNat i) (Int32.ofNat x)) (xf_rf_argument1 (Int32.ofNat E) text N (Int32.ofNat p) (-1) from_ ritems sorts values (Int32.ofNat (320 + x))) := by
  have ef0 : (fits .boolean (.int (Int32.ofNat 0)) = true) = True := by decide
  have ef1 : (fits .boolean (.int (Int32.ofNat 1)) = true) = True := by decide
  have hE := hX.1
  have hTE := hK.2.1
  have hb := wt_b_le hK hi
  have ah := wt_ahead hX hK hi
  have pk := wt_peek hX hK hN hi h1 h2
  have tk := wt_takes hX hK (i := i) (c := 46) hi (by omega) (by omega)
  rw [h46] at ah pk
  rw [if_pos h46] at tk
  have bg := wz_begins (c := 46) (by omega)
  rw [if_neg (by decide)] at bg
  obtain ⟨hiT, _, s1, s2⟩ := wz_sgn hK hi (by omega) h46 (by decide) (by decide) (by omega)
  have hb1 := wt_b_le hK (i := i + 1) (by omega)
  have nm := wt_cname hX hK hN (i := i + 1) (by omega) (wz_o hK (i + 1) (by omega))
  obtain ⟨ri, r1, r2, r3⟩ := wt_rname hX hK (N := N) (n1 := 19200) (to := 20 * (320 + x)) hN (by omega) (by omega) (i := i + 1) (p := b i + 1) (by omega) (by omega) (by omega) ritems from_
  obtain ⟨en1, en2, en3, _⟩ := wt_end_le (P := wt_lt) (ch := ch) (E := E) (E - b (i + 1)) (b (i + 1)) (by omega)
  have fr4 : ∀ y, y < 6400 + 20 * x ∨ 6400 + 20 * x + 20 ≤ y → ri y = ritems y := fun y hy => r1 y (by omega)
  rcases nm with ⟨hiT1, nl, ne, nlt, n8, nm⟩ | ⟨nbad, nm⟩
  · have ne2 : wt_end wt_lt ch E (b (i + 1)) = st (i + 2) := ne
    have nlt2 : b (i + 1) < st (i + 2) := nlt
    have n82 : st (i + 2) - b (i + 1) ≤ 8 := n8
    have nm2 : xf_wd_nameAhead begin_ end_ first (Int32.ofNat (i + 1)) (Int32.ofNat E) signs (Int32.ofNat T) N = some (wq_pack signs (b (i + 1)) (st (i + 2) - b (i + 1))) := nm
    rw [ne2] at r2 r3 en1 en2 en3
    rw [if_neg (by omega)] at r3
    have lets : ∀ x, x < st (i + 2) - b (i + 1) → ∃ k, 65 ≤ k ∧ k ≤ 90 ∧ signs (b (i + 1) + x) = Int32.ofNat k := by
      intro x hx
      have := wt_lt_iff.mp (en3 (b (i + 1) + x) (by omega) (by omega))
      exact ⟨_, this.1, this.2, (hX.2 (b (i + 1) + x) (by omega)).1⟩
    have nz : ¬ wq_pack signs (b (i + 1)) (st (i + 2) - b (i + 1)) = 0 := wk_pack0 n82 (by omega) lets
    have pt := wz_putm hx (Int32.ofNat u) sort start value (Int32.ofNat 5) (Int32.ofNat 0)
    obtain ⟨g1, g2, g3, g4, g5, g6, g7, g8, g9, g10⟩ := hK.1.2 (i + 1) hiT1
    have end1 : end_ (i + 1) = Int32.ofNat (st (i + 2)) := by
      have oo := wz_o hK (i + 1) (by omega)
      have lr := wt_lt_iff.mp nl
      rw [g8, oo]
      unfold wt_e
      rw [if_neg (by simp), if_neg (by omega), if_neg (fun hh => by have := wt_dg_iff.mp hh; omega), if_pos nl, ← wt_end1 g2 nl, ne2]
      rfl
    -- the letters taken
    have take : ∀ l j k u M (items value : Nat → Int32), j + l = st (i + 2) → b (i + 1) ≤ j → l < M → u + l ≤ 1200 → value x = Int32.ofNat k →
        ∃ items' value' : Nat → Int32, (∀ y, y < u → items' y = items y) ∧ (∀ y, y < l → items' (u + y) = signs (j + y)) ∧ (∀ y, y ≠ x → value' y = value y) ∧ value' x = Int32.ofNat (k + l) ∧ xf_wd_takeLetters_21 begin_ end_ first (Int32.ofNat E) signs (Int32.ofNat T) N M items (Int32.ofNat u) value (Int32.ofNat (i + 1)) (Int32.ofNat x) (Int32.ofNat j) = some ((), items', Int32.ofNat (u + l), value', Int32.ofNat (i + 2)) := by
      intro l
      induction l with
      | zero =>
        intro j k u M items value hj _ hM hu hv
        obtain ⟨M', rfl⟩ : ∃ M', M = M' + 1 := ⟨M - 1, by omega⟩
        refine ⟨items, value, fun _ _ => rfl, fun y hy => absurd hy (by omega), fun _ _ => rfl, hv, ?_⟩
        simp (disch := omega) only [↓xf_wd_takeLetters_21_s, wq_ltT, wq_ltF, wq_inT, wq_clamp, wq_eqF, wq_eqm, wq_meq, wq_add, wq_mul, wq_subT, eq_self, Bool.false_eq_true, ↓reduceIte, Option.bind_some, Sum.elim_inl, Sum.elim_inr, ↓wq_f0b, ↓wq_f1b, ↓wq_f2b, ↓wq_r0b, ↓wq_r1b, ↓Option.bind_some, end1, Nat.add_zero, Nat.add_assoc, Nat.reduceAdd]
      | succ l ih =>
        intro j k u M items value hj hbj hM hu hv
        obtain ⟨M', rfl⟩ : ∃ M', M = M' + 1 := ⟨M - 1, by omega⟩
        have sg := wt_sign hE (fun j hj => ⟨(hX.2 j hj).1, (hX.2 j hj).2.2⟩) (j := j) (by omega)
        have cj : wt_c ch E j = ch j := if_pos (by omega)
        rw [cj, ← (hX.2 j (by omega)).1] at sg
        have ad := wz_addItem (u := u) (x := x) (by omega) hx items value (signs j)
        rw [hv, wq_add] at ad
        obtain ⟨items', value', i1, i2, i3, i4, i5⟩ := ih (j + 1) (k + 1) (u + 1) M' (upd items u (signs j)) (upd value x (Int32.ofNat (k + 1))) (by omega) (by omega) (by omega) (by omega) wq_upd1
        refine ⟨items', value', fun y hy => ?_, fun y hy => ?_, fun y hy => ?_, ?_, ?_⟩
        · rw [i1 y (by omega), wq_upd2 (by omega)]
        · cases y with
          | zero => rw [Nat.add_zero, Nat.add_zero, i1 u (by omega), wq_upd1]
          | succ y =>
            rw [show u + (y + 1) = u + 1 + y by omega, show j + (y + 1) = j + 1 + y by omega]
            exact i2 y (by omega)
        · rw [i3 y hy, wq_upd2 hy]
        · rw [i4, show k + (l + 1) = k + 1 + l by omega]
        · rw [show u + (l + 1) = u + 1 + l by omega, ← i5, xf_wd_takeLetters_21_s]
          simp (disch := omega) only [wq_ltT, wq_ltF, wq_inT, wq_clamp, wq_eqF, wq_eqm, wq_meq, wq_add, wq_mul, wq_subT, eq_self, Bool.false_eq_true, ↓reduceIte, Option.bind_some, Sum.elim_inl, Sum.elim_inr, ↓wq_f0b, ↓wq_f1b, ↓wq_f2b, ↓wq_r0b, ↓wq_r1b, ↓Option.bind_some, end1, ↓wq_b sg, ↓wq_b ad]
    obtain ⟨items', value', t1, t2, t3, t4, t5⟩ := take (st (i + 2) - b (i + 1)) (b (i + 1)) 0 u N items (upd value x (Int32.ofNat 0)) (by omega) (by omega) (by omega) (by omega) wq_upd1
    have ah1 := wt_ahead hX hK (i := i + 1) (by omega)
    have ea1 : wt_a ch T b (i + 1) = ch (b (i + 1)) := if_pos hiT1
    have lr := wt_lt_iff.mp nl
    have al := wt_isL (c := ch (b (i + 1))) (by omega)
    rw [ea1] at ah1
    rw [if_pos nl] at al
    have tl : xf_wd_takeLetters begin_ end_ first (Int32.ofNat E) signs (Int32.ofNat T) N items (Int32.ofNat u) (upd value x (Int32.ofNat 0)) (Int32.ofNat (i + 1)) (Int32.ofNat x) = some ((), items', Int32.ofNat (u + (st (i + 2) - b (i + 1))), value', Int32.ofNat (i + 2)) := by
      rw [← t5, xf_wd_takeLetters_s]
      simp (disch := omega) only [wq_ltT, wq_ltF, wq_inT, wq_clamp, wq_eqF, wq_eqm, wq_meq, wq_add, wq_mul, wq_subT, eq_self, Bool.false_eq_true, ↓reduceIte, Option.bind_some, Sum.elim_inl, Sum.elim_inr, ↓wq_f0b, ↓wq_f1b, ↓wq_f2b, ↓wq_r0b, ↓wq_r1b, ↓Option.bind_some, ↓wq_b ah1, ↓wq_b al, g7]
    have hs2 := wt_st_le hK (i := i + 2) (by omega)
    have hb2 := wt_b_le hK (i := i + 2) (by omega)
    have tk2 := wt_takes hX hK (i := i + 2) (c := 46) (by omega) (by omega) (by omega)
    have rs2 := wt_rsign hX hK hN (i := i + 2) (p := st (i + 2)) (c := 46) (by omega) (Nat.le_refl _) hs2 (by omega)
    have fr3 : ∀ y, y ≠ 320 + x → upd (upd values (320 + x) (Int32.ofNat 0)) (320 + x) (Int32.ofNat (st (i + 2) - b (i + 1))) y = values y := fun y hy => by rw [wq_upd2 hy, wq_upd2 hy]
    by_cases h46' : wt_a ch T b (i + 2) = 46
    · rw [if_pos h46'] at tk2 rs2
      obtain ⟨hiT2, _, s3, s4⟩ := wz_sgn hK (i := i + 2) (by omega) (by omega) h46' (by decide) (by decide) (by omega)
      have s3' : st (i + 3) = b (i + 2) + 1 := s3
      have s4' : b (i + 2) + 1 ≤ b (i + 3) := s4
      refine ⟨items', upd sort x (Int32.ofNat 5), upd start x (Int32.ofNat u), value', upd sorts (320 + x) (Int32.ofNat 5), upd (upd values (320 + x) (Int32.ofNat 0)) (320 + x) (Int32.ofNat (st (i + 2) - b (i + 1))), ri, Int32.ofNat u, Int32.ofNat (b (i + 1)), i + 3, by omega, wz_F1 (fun y hy => by rw [t3 y hy, wq_upd2 hy]) t1 fr3 fr4 _ _ _, Or.inl ⟨u + (st (i + 2) - b (i + 1)), 5, st (i + 2) - b (i + 1), u, b (i + 2) + 1, by omega, by omega, by omega, by omega, by omega, by omega, ⟨wq_upd1, wq_upd1, by rw [wq_upd1, t4, Nat.zero_add], wq_upd1, by omega, fun y hy => ?_, ?_⟩, ?_, ?_⟩⟩
      · rw [t2 y hy, (hX.2 (b (i + 1) + y) (by omega)).1, ← r2 y (by omega) (by omega), show 20 * (320 + x) + y = 6400 + 20 * x + y by omega]
      · refine ⟨by omega, by omega, fun e => absurd e (by omega), fun e => absurd e (by omega), fun e => absurd e (by omega), fun e => absurd e (by omega), fun e => absurd e (by omega), fun _ => ⟨wq_upd1, n82, fun y hy => ?_⟩, fun e => absurd e (by omega)⟩
        have := wt_lt_iff.mp (en3 (b (i + 1) + y) (by omega) (by omega))
        refine ⟨_, this.1, this.2, ?_⟩
        rw [← r2 y (by omega) (by omega), show 20 * (320 + x) + y = 6400 + 20 * x + y by omega]
      · simp (disch := omega) only [↓xf_mr_readArgument_s, ↓xf_mr_readWord_24_s, ↓xf_mr_readWord_s, wq_ltT, wq_ltF, wq_inT, wq_clamp, wq_eqF, wq_eqm, wq_meq, wq_add, wq_mul, wq_subT, eq_self, Bool.false_eq_true, ↓reduceIte, Option.bind_some, Sum.elim_inl, Sum.elim_inr, ↓wq_f0b, ↓wq_f1b, ↓wq_f2b, ↓wq_r0b, ↓wq_r1b, ↓Option.bind_some, ↓wq_b ah, ↓wq_b tk, ↓wq_b nm2, wq_cmp0, nz, ↓wq_b pt, ↓wq_b tl, ↓wq_b tk2, ef1, Nat.add_assoc, Nat.reduceAdd]
      · simp (disch := omega) only [↓xf_rf_argument1_178_s, ↓xf_rf_argument1_s, wq_ltT, wq_ltF, wq_inT, wq_clamp, wq_eqF, wq_eqm, wq_meq, wq_add, wq_mul, wq_subT, eq_self, Bool.false_eq_true, ↓reduceIte, Option.bind_some, Sum.elim_inl, Sum.elim_inr, ↓wq_f0b, ↓wq_f1b, ↓wq_f2b, ↓wq_r0b, ↓wq_r1b, ↓Option.bind_some, ↓wq_b pk, ↓wq_b bg, ↓wq_b r3, ↓wq_b rs2]
    · rw [if_neg h46'] at tk2 rs2
      refine ⟨items', upd sort x (Int32.ofNat 5), upd start x (Int32.ofNat u), value', upd sorts (320 + x) (Int32.ofNat 5), upd (upd values (320 + x) (Int32.ofNat 0)) (320 + x) (Int32.ofNat (st (i + 2) - b (i + 1))), ri, Int32.ofNat (u + (st (i + 2) - b (i + 1))), Int32.ofNat (b (i + 1)), i + 2, by omega, wz_F1 (fun y hy => by rw [t3 y hy, wq_upd2 hy]) t1 fr3 fr4 _ _ _, Or.inr ⟨Int32.ofNat (b (i + 2)), ?_, ?_⟩⟩
      · simp (disch := omega) only [↓xf_mr_readArgument_s, ↓xf_mr_readWord_24_s, ↓xf_mr_readWord_s, wq_ltT, wq_ltF, wq_inT, wq_clamp, wq_eqF, wq_eqm, wq_meq, wq_add, wq_mul, wq_subT, eq_self, Bool.false_eq_true, ↓reduceIte, Option.bind_some, Sum.elim_inl, Sum.elim_inr, ↓wq_f0b, ↓wq_f1b, ↓wq_f2b, ↓wq_r0b, ↓wq_r1b, ↓Option.bind_some, ↓wq_b ah, ↓wq_b tk, ↓wq_b nm2, wq_cmp0, nz, ↓wq_b pt, ↓wq_b tl, ↓wq_b tk2, ef0]
      · simp (disch := omega) only [↓xf_rf_argument1_178_s, ↓xf_rf_argument1_s, wq_ltT, wq_ltF, wq_inT, wq_clamp, wq_eqF, wq_eqm, wq_meq, wq_add, wq_mul, wq_subT, eq_self, Bool.false_eq_true, ↓reduceIte, Option.bind_some, Sum.elim_inl, Sum.elim_inr, ↓wq_f0b, ↓wq_f1b, ↓wq_f2b, ↓wq_r0b, ↓wq_r1b, ↓Option.bind_some, ↓wq_b pk, ↓wq_b bg, ↓wq_b r3, ↓wq_b rs2]
  · rw [if_pos nbad] at r3
    have fne : ¬ Int32.ofNat (b (i + 1)) = -1 := fun hh => (wq_eqm (by omega)).mp hh
    have rs2 := wt_rsign2 (E := E) (text := text) (N := N) (at_ := Int32.ofNat (wt_end wt_lt ch E (b (i + 1)))) (f := Int32.ofNat (b (i + 1))) (c := Int32.ofNat 46) fne
    refine ⟨items, sort, start, value, upd sorts (320 + x) (Int32.ofNat 5), upd (upd values (320 + x) (Int32.ofNat 0)) (320 + x) (Int32.ofNat (wt_end wt_lt ch E (b (i + 1)) - b (i + 1))), ri, Int32.ofNat u, Int32.ofNat (b (i + 1)), i + 1, by omega, ⟨fun _ _ => ⟨rfl, rfl, rfl⟩, fun _ _ => rfl, fun y hy => ⟨wq_upd2 hy, by rw [wq_upd2 hy, wq_upd2 hy]⟩, fr4⟩, Or.inr ⟨Int32.ofNat (wt_end wt_lt ch E (b (i + 1))), ?_, ?_⟩⟩
    · have z0 : lg_cmp 0 0 = Int32.ofNat 0 := by decide
      simp (disch := omega) only [↓xf_mr_readArgument_s, ↓xf_mr_readWord_24_s, ↓xf_mr_readWord_s, wq_ltT, wq_ltF, wq_inT, wq_clamp, wq_eqF, wq_eqm, wq_meq, wq_add, wq_mul, wq_subT, eq_self, Bool.false_eq_true, ↓reduceIte, Option.bind_some, Sum.elim_inl, Sum.elim_inr, ↓wq_f0b, ↓wq_f1b, ↓wq_f2b, ↓wq_r0b, ↓wq_r1b, ↓Option.bind_some, ↓wq_b ah, ↓wq_b tk, ↓wq_b nm, z0, ef0]
    · simp (disch := omega) only [↓xf_rf_argument1_178_s, ↓xf_rf_argument1_s, wq_ltT, wq_ltF, wq_inT, wq_clamp, wq_eqF, wq_eqm, wq_meq, wq_add, wq_mul, wq_subT, eq_self, Bool.false_eq_true, ↓reduceIte, Option.bind_some, Sum.elim_inl, Sum.elim_inr, ↓wq_f0b, ↓wq_f1b, ↓wq_f2b, ↓wq_r0b, ↓wq_r1b, ↓Option.bind_some, ↓wq_b pk, ↓wq_b bg, ↓wq_b r3, ↓wq_b rs2]
end
