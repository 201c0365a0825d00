/-! READ: the arguments of a line. -/
theorem wz_v_congr {t c : Nat} {v : Int32} {it it' : Nat → Int32} (he : ∀ i, i < c → it' i = it i) (h : wz_v t c v it) : wz_v t c v it' := by
  obtain ⟨h1, h2, w0, w1, w2, w3, w4, w5, w6⟩ := h
  refine ⟨h1, h2, w0, fun e => ⟨(w1 e).1, fun i hi => ?_⟩, w2, fun e => ⟨(w3 e).1, (w3 e).2.1, fun i hi => ?_⟩, fun e => ⟨(w4 e).1, (w4 e).2.1, fun i hi => ?_⟩, fun e => ⟨(w5 e).1, (w5 e).2.1, fun i hi => ?_⟩, w6⟩
  · rw [he i hi]
    exact (w1 e).2 i hi
  · rw [he i hi]
    exact (w3 e).2.2 i hi
  · rw [he i hi]
    exact (w4 e).2.2 i hi
  · rw [he i hi]
    exact (w5 e).2.2 i hi
theorem wz_a_congr {y u u' t c s : Nat} {sort value start items sorts values ritems sort' value' start' items' sorts' values' ritems' : Nat → Int32} (h1 : sort' y = sort y ∧ value' y = value y ∧ start' y = start y) (h2 : ∀ z, z < u → items' z = items z) (h3 : sorts' (320 + y) = sorts (320 + y) ∧ values' (320 + y) = values (320 + y)) (h4 : ∀ i, i < 20 → ritems' (6400 + 20 * y + i) = ritems (6400 + 20 * y + i)) (hu : u ≤ u') (h : wz_a y u t c s sort value start items sorts values ritems) : wz_a y u' t c s sort' value' start' items' sorts' values' ritems' := by
  obtain ⟨a1, a2, a3, a4, a5, a6, a7⟩ := h
  have c20 := a7.2.1
  refine ⟨by rw [h1.1]; exact a1, by rw [h3.1]; exact a2, by rw [h1.2.1, h3.2]; exact a3, by rw [h1.2.2]; exact a4, by omega, fun i hi => ?_, ?_⟩
  · rw [h2 (s + i) (by omega), h4 i (by omega)]
    exact a6 i hi
  · rw [h3.2]
    exact wz_v_congr (fun i hi => h4 i (by omega)) a7
theorem wz_a_F {x y u u' t c s : Nat} {sort value start items sorts values ritems sort' value' start' items' sorts' values' ritems' : Nat → Int32} (hF : wz_F x u sort value start items sorts values ritems sort' value' start' items' sorts' values' ritems') (hxy : y ≠ x) (hu : u ≤ u') (h : wz_a y u t c s sort value start items sorts values ritems) : wz_a y u' t c s sort' value' start' items' sorts' values' ritems' :=
  wz_a_congr (hF.1 y hxy) hF.2.1 (hF.2.2.1 _ (by omega)) (fun i hi => hF.2.2.2 _ (by omega)) hu h
/-- the frame of a line's arguments -/
def wz_FL (r u : Nat) (size sort value start items sorts values ritems size' sort' value' start' items' sorts' values' ritems' : Nat → Int32) : Prop :=
  (∀ y, y ≠ r → size' y = size y) ∧ (∀ y, y < r * 8 ∨ r * 8 + 8 ≤ y → sort' y = sort y ∧ value' y = value y ∧ start' y = start y) ∧ (∀ y, y < u → items' y = items y) ∧ (∀ y, y < 320 + r * 8 ∨ 320 + r * 8 + 8 ≤ y → sorts' y = sorts y ∧ values' y = values y) ∧ (∀ y, y < 6400 + 160 * r ∨ 6400 + 160 * r + 160 ≤ y → ritems' y = ritems y)
section
variable {E T : Nat} {ch : Nat → Nat} {signs text : Nat → Int32} {b st : Nat → Nat} {o : Nat → Bool} {begin_ end_ first digits : Nat → Int32}
theorem wz_args (hX : wt_X E ch signs text) (hK : wt_Tok ch E false T b st o begin_ end_ first digits) {N : Nat} (hN : 1300 ≤ N) {r u0 : Nat} (hr : r < 40) (letters lines names numbers parts : Nat → Int32) :
    ∀ l k i p u M1 M2 (size sort value start items sorts values ritems : Nat → Int32) (fr : Int32) (t c s : Nat → Nat), k + l = 8 → i ≤ T → st i ≤ p → p ≤ b i → u ≤ st i → u0 ≤ u → l < M1 → l + 2 < M2 → size r = Int32.ofNat k → (∀ j, j < k → wz_a (r * 8 + j) u (t j) (c j) (s j) sort value start items sorts values ritems ∧ u0 ≤ s j) → (∀ j j', j < j' → j' < k → s j + c j ≤ s j') →
    ∃ (size' sort' value' start' items' sorts' values' ritems' : Nat → Int32) (us' fr' : Int32) (i' k' : Nat), i' ≤ T ∧ wz_FL r u0 size sort value start items sorts values ritems size' sort' value' start' items' sorts' values' ritems' ∧
      ((∃ (u' p' : Nat) (t' c' s' : Nat → Nat), i < i' ∧ u ≤ u' ∧ u' ≤ st i' ∧ st i' ≤ p' ∧ p' ≤ b i' ∧ 1 ≤ k' ∧ k' ≤ 8 ∧ size' r = Int32.ofNat k' ∧ (∀ j, j < k' → wz_a (r * 8 + j) u' (t' j) (c' j) (s' j) sort' value' start' items' sorts' values' ritems' ∧ u0 ≤ s' j) ∧ (∀ j j', j < j' → j' < k' → s' j + c' j ≤ s' j') ∧
          xf_mr_readArguments_2 (Int32.ofNat (r + 1)) begin_ digits end_ first (Int32.ofNat E) signs (Int32.ofNat T) N M1 items size sort start (Int32.ofNat u) value (Int32.ofNat i) (Int32.ofNat k) = some (Int32.ofNat 1, items', size', sort', start', Int32.ofNat u', value', Int32.ofNat i') ∧
          xf_rf_oneLine_120 (Int32.ofNat E) text N M2 (Int32.ofNat p) (-1) fr ritems letters lines names numbers parts sorts values (Int32.ofNat (40 + r)) (Int32.ofNat k) (Int32.ofNat 1) = (xf_rf_sign (Int32.ofNat E) text N (Int32.ofNat p') (-1) (Int32.ofNat 59)).bind fun q787 => some ((), q787.2.1, q787.2.2, fr', ritems', letters, upd lines 1 (lines 1 + Int32.ofNat 1), names, numbers, upd parts (40 + r) (Int32.ofNat k'), sorts', values')) ∨
       (∃ at', xf_mr_readArguments_2 (Int32.ofNat (r + 1)) begin_ digits end_ first (Int32.ofNat E) signs (Int32.ofNat T) N M1 items size sort start (Int32.ofNat u) value (Int32.ofNat i) (Int32.ofNat k) = some (Int32.ofNat 0, items', size', sort', start', us', value', Int32.ofNat i') ∧
          xf_rf_oneLine_120 (Int32.ofNat E) text N M2 (Int32.ofNat p) (-1) fr ritems letters lines names numbers parts sorts values (Int32.ofNat (40 + r)) (Int32.ofNat k) (Int32.ofNat 1) = some ((), at', Int32.ofNat (b i'), fr', ritems', letters, upd lines 1 (lines 1 + Int32.ofNat 1), names, numbers, upd parts (40 + r) (Int32.ofNat k'), sorts', values'))) := by
  have hE := hX.1
  have hTE := hK.2.1
  have m1 : ((-1 : Int32) = -1) = True := eq_true rfl
  have fne : ∀ y, y ≤ 1200 → ¬ Int32.ofNat y = -1 := fun y hy hh => (wq_eqm (by omega)).mp hh
  -- after a fault
  have fin : ∀ (at_ f fr : Int32) (ritems sorts values : Nat → Int32) (k : Nat), ¬ f = -1 → xf_rf_oneLine_210 (Int32.ofNat E) text N at_ f fr ritems letters lines names numbers parts sorts values (Int32.ofNat (40 + r)) (Int32.ofNat k) = some ((), at_, f, fr, ritems, letters, upd lines 1 (lines 1 + Int32.ofNat 1), names, numbers, upd parts (40 + r) (Int32.ofNat k), sorts, values) := by
    intro at_ f fr ritems sorts values k hf
    have r1 := wt_rsign2 (E := E) (text := text) (N := N) (at_ := at_) (f := f) (c := Int32.ofNat 41) hf
    have r2 := wt_rsign2 (E := E) (text := text) (N := N) (at_ := at_) (f := f) (c := Int32.ofNat 59) hf
    simp (disch := omega) only [↓xf_rf_oneLine_210_s, wq_ltT, wq_ltF, wq_inT, wq_clamp, wq_eqF, wq_eqm, wq_meq, wq_add, wq_mul, wq_subT, eq_self, Bool.false_eq_true, ↓reduceIte, Option.bind_some, Sum.elim_inl, Sum.elim_inr, ↓wq_f0b, ↓wq_f1b, ↓wq_f2b, ↓wq_r0b, ↓wq_r1b, ↓Option.bind_some, ↓wq_b r1, ↓wq_b r2]
  have stop : ∀ M (at_ f fr v4 : Int32) (ritems sorts values : Nat → Int32) (k : Nat), ¬ f = -1 → xf_rf_oneLine_120 (Int32.ofNat E) text N (M + 1) at_ f fr ritems letters lines names numbers parts sorts values (Int32.ofNat (40 + r)) (Int32.ofNat k) v4 = some ((), at_, f, fr, ritems, letters, upd lines 1 (lines 1 + Int32.ofNat 1), names, numbers, upd parts (40 + r) (Int32.ofNat k), sorts, values) := by
    intro M at_ f fr v4 ritems sorts values k hf
    rw [← fin at_ f fr ritems sorts values k hf, xf_rf_oneLine_120_s, if_neg hf, ite_self]
  intro l
  induction l with
  | zero =>
    intro k i p u M1 M2 size sort value start items sorts values ritems fr t c s hk hi h1 h2 hu hu0 hM1 hM2 hsz ha ho
    obtain ⟨M1, rfl⟩ : ∃ M, M1 = M + 1 := ⟨M1 - 1, by omega⟩
    obtain ⟨M2, rfl⟩ : ∃ M, M2 = M + 1 + 1 := ⟨M2 - 2, by omega⟩
    have e8 : k = 8 := by omega
    subst e8
    have hb := wt_b_le hK hi
    have pk := wt_peek hX hK hN hi h1 h2
    refine ⟨size, sort, value, start, items, sorts, values, ritems, Int32.ofNat u, fr, i, 8, hi, ⟨fun _ _ => rfl, fun _ _ => ⟨rfl, rfl, rfl⟩, fun _ _ => rfl, fun _ _ => ⟨rfl, rfl⟩, fun _ _ => rfl⟩, Or.inr ⟨Int32.ofNat (b i), ?_, ?_⟩⟩
    · simp (disch := omega) only [↓xf_mr_readArguments_2_s, wq_ltT, wq_ltF, wq_inT, wq_clamp, wq_eqF, wq_eqm, wq_meq, wq_add, wq_mul, wq_subT, eq_self, Bool.false_eq_true, ↓reduceIte, Option.bind_some, Sum.elim_inl, Sum.elim_inr, ↓wq_f0b, ↓wq_f1b, ↓wq_f2b, ↓wq_r0b, ↓wq_r1b, ↓Option.bind_some]
    · rw [← stop M2 (Int32.ofNat (b i)) (Int32.ofNat (b i)) fr (Int32.ofNat 1) ritems sorts values 8 (fne _ (by omega)), xf_rf_oneLine_120_s (N := M2 + 1)]
      simp (disch := omega) only [wq_ltT, wq_ltF, wq_inT, wq_clamp, wq_eqF, wq_eqm, wq_meq, wq_add, wq_mul, wq_subT, eq_self, Bool.false_eq_true, ↓reduceIte, Option.bind_some, Sum.elim_inl, Sum.elim_inr, ↓wq_f0b, ↓wq_f1b, ↓wq_f2b, ↓wq_r0b, ↓wq_r1b, ↓Option.bind_some, m1, ↓wq_b pk, ↓xf_rf_wrongAt_13_s, ↓xf_rf_wrongAt_s]
  | succ l ih =>
    intro k i p u M1 M2 size sort value start items sorts values ritems fr t c s hk hi h1 h2 hu hu0 hM1 hM2 hsz ha ho
    obtain ⟨M1, rfl⟩ : ∃ M, M1 = M + 1 := ⟨M1 - 1, by omega⟩
    obtain ⟨M2, rfl⟩ : ∃ M, M2 = M + 1 + 1 := ⟨M2 - 2, by omega⟩
    have hb := wt_b_le hK hi
    have hs := wt_st_le hK hi
    have pk := wt_peek hX hK hN hi h1 h2
    have aa : xf_md_addArgument (Int32.ofNat (r + 1)) size = some (Int32.ofNat (r * 8 + k), upd size r (Int32.ofNat (k + 1))) := by
      simp (disch := omega) only [↓xf_md_addArgument_22_s, ↓xf_md_addArgument_s, wq_ltT, wq_ltF, wq_inT, wq_clamp, wq_eqF, wq_eqm, wq_meq, wq_add, wq_mul, wq_subT, eq_self, Bool.false_eq_true, ↓reduceIte, Option.bind_some, Sum.elim_inl, Sum.elim_inr, ↓wq_f0b, ↓wq_f1b, ↓wq_f2b, ↓wq_r0b, ↓wq_r1b, ↓Option.bind_some, Nat.add_sub_cancel, hsz, wq_upd1]
      rw [show r * 8 + (k + 1) - 1 = r * 8 + k by omega]
    obtain ⟨items', sort', start', value', sorts', values', ri, us', fr', i', l1, hF, hres⟩ := wz_arg hX hK hN (i := i) (p := b i) (u := u) (x := r * 8 + k) hi hs (Nat.le_refl _) hu (by omega) fr sort value start items sorts values ritems
    have ei : 8 * (40 + r) + k = 320 + (r * 8 + k) := by omega
    have hFL : wz_FL r u0 size sort value start items sorts values ritems (upd size r (Int32.ofNat (k + 1))) sort' value' start' items' sorts' values' ri := by
      obtain ⟨F1, F2, F3, F4⟩ := hF
      exact ⟨fun y hy => wq_upd2 hy, fun y hy => F1 y (by omega), fun y hy => F2 y (by omega), fun y hy => F3 y (by omega), fun y hy => F4 y (by omega)⟩
    rcases hres with ⟨u', t0, c0, s0, p', a1, a2, a3, a4, a5, a6, a7, a8, a9⟩ | ⟨at', a8, a9⟩
    · have hb' := wt_b_le hK l1
      have hs' := wt_st_le hK l1
      have tk1 := wt_takes hX hK (i := i') (c := 41) l1 (by omega) (by omega)
      have tk2 := wt_takes hX hK (i := i') (c := 44) l1 (by omega) (by omega)
      have pk' := wt_peek hX hK hN l1 a5 a6
      have ab := wt_a_lt hX hK i'
      have ha' : ∀ j, j < k + 1 → wz_a (r * 8 + j) u' ((fun j => if j = k then t0 else t j) j) ((fun j => if j = k then c0 else c j) j) ((fun j => if j = k then s0 else s j) j) sort' value' start' items' sorts' values' ri ∧ u0 ≤ (fun j => if j = k then s0 else s j) j := by
        intro j hj
        by_cases e : j = k
        · subst e
          show wz_a (r * 8 + j) u' (if j = j then t0 else t j) (if j = j then c0 else c j) (if j = j then s0 else s j) sort' value' start' items' sorts' values' ri ∧ u0 ≤ (if j = j then s0 else s j)
          rw [if_pos rfl, if_pos rfl, if_pos rfl]
          exact ⟨a7, by omega⟩
        · show wz_a (r * 8 + j) u' (if j = k then t0 else t j) (if j = k then c0 else c j) (if j = k then s0 else s j) sort' value' start' items' sorts' values' ri ∧ u0 ≤ (if j = k then s0 else s j)
          rw [if_neg e, if_neg e, if_neg e]
          obtain ⟨b1, b2⟩ := ha j (by omega)
          exact ⟨wz_a_F hF (by omega) (by omega) b1, b2⟩
      have ho' : ∀ j j', j < j' → j' < k + 1 → (fun j => if j = k then s0 else s j) j + (fun j => if j = k then c0 else c j) j ≤ (fun j => if j = k then s0 else s j) j' := by
        intro j j' hj hj'
        show (if j = k then s0 else s j) + (if j = k then c0 else c j) ≤ (if j' = k then s0 else s j')
        rw [if_neg (by omega : ¬ j = k), if_neg (by omega : ¬ j = k)]
        by_cases e : j' = k
        · rw [if_pos e]
          have := (ha j (by omega)).1.2.2.2.2.1
          omega
        · rw [if_neg e]
          exact ho j j' hj (by omega)
      -- the reference to behind the argument
      by_cases h44 : wt_a ch T b i' = 44
      · rw [if_neg (by omega)] at tk1
        rw [if_pos h44] at tk2
        rw [h44] at pk'
        obtain ⟨hiT, _, s1, s2⟩ := wz_sgn hK l1 (by omega) h44 (by decide) (by decide) (by omega)
        obtain ⟨size2, sort2, value2, start2, items2, sorts2, values2, ri2, us2, fr2, i2, k2, j1, hFL2, j3⟩ := ih (k + 1) (i' + 1) (b i' + 1) u' M1 (M2 + 1) (upd size r (Int32.ofNat (k + 1))) sort' value' start' items' sorts' values' ri fr' _ _ _ (by omega) (by omega) (by omega) (by omega) (by omega) (by omega) (by omega) (by omega) wq_upd1 ha' ho'
        have cs : xf_mr_readArguments_2 (Int32.ofNat (r + 1)) begin_ digits end_ first (Int32.ofNat E) signs (Int32.ofNat T) N (M1 + 1) items size sort start (Int32.ofNat u) value (Int32.ofNat i) (Int32.ofNat k) = xf_mr_readArguments_2 (Int32.ofNat (r + 1)) begin_ digits end_ first (Int32.ofNat E) signs (Int32.ofNat T) N M1 items' (upd size r (Int32.ofNat (k + 1))) sort' start' (Int32.ofNat u') value' (Int32.ofNat (i' + 1)) (Int32.ofNat (k + 1)) := by
          rw [xf_mr_readArguments_2_s]
          simp (disch := omega) only [wq_ltT, wq_ltF, wq_inT, wq_clamp, wq_eqF, wq_eqm, wq_meq, wq_add, wq_mul, wq_subT, eq_self, Bool.false_eq_true, ↓reduceIte, Option.bind_some, Sum.elim_inl, Sum.elim_inr, ↓wq_f0b, ↓wq_f1b, ↓wq_f2b, ↓wq_r0b, ↓wq_r1b, ↓Option.bind_some, ↓wq_b aa, ↓wq_b a8, ↓wq_b tk1, ↓wq_b tk2]
        have rs : xf_rf_oneLine_120 (Int32.ofNat E) text N (M2 + 1 + 1) (Int32.ofNat p) (-1) fr ritems letters lines names numbers parts sorts values (Int32.ofNat (40 + r)) (Int32.ofNat k) (Int32.ofNat 1) = xf_rf_oneLine_120 (Int32.ofNat E) text N (M2 + 1) (Int32.ofNat (b i' + 1)) (-1) fr' ri letters lines names numbers parts sorts' values' (Int32.ofNat (40 + r)) (Int32.ofNat (k + 1)) (Int32.ofNat 1) := by
          rw [xf_rf_oneLine_120_s]
          simp (disch := omega) only [wq_ltT, wq_ltF, wq_inT, wq_clamp, wq_eqF, wq_eqm, wq_meq, wq_add, wq_mul, wq_subT, eq_self, Bool.false_eq_true, ↓reduceIte, Option.bind_some, Sum.elim_inl, Sum.elim_inr, ↓wq_f0b, ↓wq_f1b, ↓wq_f2b, ↓wq_r0b, ↓wq_r1b, ↓Option.bind_some, m1, ↓wq_b pk, ei, ↓wq_b a9, ↓wq_b pk', ↓xf_rf_oneLine_190_s]
        have hFL3 : wz_FL r u0 size sort value start items sorts values ritems size2 sort2 value2 start2 items2 sorts2 values2 ri2 := by
          obtain ⟨F1, F2, F3, F4, F5⟩ := hFL
          obtain ⟨H1, H2, H3, H4, H5⟩ := hFL2
          refine ⟨fun y hy => (H1 y hy).trans (F1 y hy), fun y hy => ⟨(H2 y hy).1.trans (F2 y hy).1, (H2 y hy).2.1.trans (F2 y hy).2.1, (H2 y hy).2.2.trans (F2 y hy).2.2⟩, fun y hy => (H3 y hy).trans (F3 y hy), fun y hy => ⟨(H4 y hy).1.trans (F4 y hy).1, (H4 y hy).2.trans (F4 y hy).2⟩, fun y hy => (H5 y hy).trans (F5 y hy)⟩
        refine ⟨size2, sort2, value2, start2, items2, sorts2, values2, ri2, us2, fr2, i2, k2, j1, hFL3, ?_⟩
        rw [cs, rs]
        rcases j3 with ⟨u2, p2, t2, c2, s2, q1, q2, q3, q4, q5, q6, q7, q8, q9, q10, q11, q12⟩ | ⟨at2, q11, q12⟩
        · exact Or.inl ⟨u2, p2, t2, c2, s2, by omega, by omega, q3, q4, q5, q6, q7, q8, q9, q10, q11, q12⟩
        · exact Or.inr ⟨at2, q11, q12⟩
      · rw [if_neg h44] at tk2
        have rs : xf_rf_oneLine_120 (Int32.ofNat E) text N (M2 + 1 + 1) (Int32.ofNat p) (-1) fr ritems letters lines names numbers parts sorts values (Int32.ofNat (40 + r)) (Int32.ofNat k) (Int32.ofNat 1) = xf_rf_oneLine_210 (Int32.ofNat E) text N (Int32.ofNat (b i')) (-1) fr' ri letters lines names numbers parts sorts' values' (Int32.ofNat (40 + r)) (Int32.ofNat (k + 1)) := by
          rw [xf_rf_oneLine_120_s]
          simp (disch := omega) only [wq_ltT, wq_ltF, wq_inT, wq_clamp, wq_eqF, wq_eqm, wq_meq, wq_add, wq_mul, wq_subT, eq_self, Bool.false_eq_true, ↓reduceIte, Option.bind_some, Sum.elim_inl, Sum.elim_inr, ↓wq_f0b, ↓wq_f1b, ↓wq_f2b, ↓wq_r0b, ↓wq_r1b, ↓Option.bind_some, m1, ↓wq_b pk, ei, ↓wq_b a9, ↓wq_b pk', ↓xf_rf_oneLine_189_s, ↓xf_rf_oneLine_190_s]
          rw [xf_rf_oneLine_120_s, if_pos rfl]
        have sg := wt_rsign hX hK hN (i := i') (p := b i') (c := 41) l1 hs' (Nat.le_refl _) (by omega)
        rw [rs]
        by_cases h41 : wt_a ch T b i' = 41
        · rw [if_pos h41] at tk1 sg
          obtain ⟨hiT, _, s1, s2⟩ := wz_sgn hK l1 (by omega) h41 (by decide) (by decide) (by omega)
          refine ⟨upd size r (Int32.ofNat (k + 1)), sort', value', start', items', sorts', values', ri, us', fr', i' + 1, k + 1, by omega, hFL, Or.inl ⟨u', b i' + 1, _, _, _, by omega, by omega, by omega, by omega, by omega, by omega, by omega, wq_upd1, ha', ho', ?_, ?_⟩⟩
          · simp (disch := omega) only [↓xf_mr_readArguments_2_s, wq_ltT, wq_ltF, wq_inT, wq_clamp, wq_eqF, wq_eqm, wq_meq, wq_add, wq_mul, wq_subT, eq_self, Bool.false_eq_true, ↓reduceIte, Option.bind_some, Sum.elim_inl, Sum.elim_inr, ↓wq_f0b, ↓wq_f1b, ↓wq_f2b, ↓wq_r0b, ↓wq_r1b, ↓Option.bind_some, ↓wq_b aa, ↓wq_b a8, ↓wq_b tk1]
          · rw [xf_rf_oneLine_210_s, sg, Option.bind_some]
            simp (disch := omega) only [wq_ltT, wq_ltF, wq_inT, wq_clamp, wq_eqF, wq_eqm, wq_meq, wq_add, wq_mul, wq_subT, eq_self, Bool.false_eq_true, ↓reduceIte, Option.bind_some, Sum.elim_inl, Sum.elim_inr, ↓wq_f0b, ↓wq_f1b, ↓wq_f2b, ↓wq_r0b, ↓wq_r1b, ↓Option.bind_some]
        · rw [if_neg h41] at tk1 sg
          have r2 := wt_rsign2 (E := E) (text := text) (N := N) (at_ := Int32.ofNat (b i')) (f := Int32.ofNat (b i')) (c := Int32.ofNat 59) (fne _ (by omega))
          refine ⟨upd size r (Int32.ofNat (k + 1)), sort', value', start', items', sorts', values', ri, Int32.ofNat u', fr', i', k + 1, l1, hFL, Or.inr ⟨Int32.ofNat (b i'), ?_, ?_⟩⟩
          · simp (disch := omega) only [↓xf_mr_readArguments_2_s, wq_ltT, wq_ltF, wq_inT, wq_clamp, wq_eqF, wq_eqm, wq_meq, wq_add, wq_mul, wq_subT, eq_self, Bool.false_eq_true, ↓reduceIte, Option.bind_some, Sum.elim_inl, Sum.elim_inr, ↓wq_f0b, ↓wq_f1b, ↓wq_f2b, ↓wq_r0b, ↓wq_r1b, ↓Option.bind_some, ↓wq_b aa, ↓wq_b a8, ↓wq_b tk1, ↓wq_b tk2]
          · simp (disch := omega) only [↓xf_rf_oneLine_210_s, wq_ltT, wq_ltF, wq_inT, wq_clamp, wq_eqF, wq_eqm, wq_meq, wq_add, wq_mul, wq_subT, eq_self, Bool.false_eq_true, ↓reduceIte, Option.bind_some, Sum.elim_inl, Sum.elim_inr, ↓wq_f0b, ↓wq_f1b, ↓wq_f2b, ↓wq_r0b, ↓wq_r1b, ↓Option.bind_some, ↓wq_b sg, ↓wq_b r2]
    · have hb' := wt_b_le hK l1
      refine ⟨upd size r (Int32.ofNat (k + 1)), sort', value', start', items', sorts', values', ri, us', fr', i', k + 1, l1, hFL, Or.inr ⟨at', ?_, ?_⟩⟩
      · simp (disch := omega) only [↓xf_mr_readArguments_2_s, ↓xf_mr_readArguments_29_s, wq_ltT, wq_ltF, wq_inT, wq_clamp, wq_eqF, wq_eqm, wq_meq, wq_add, wq_mul, wq_subT, eq_self, Bool.false_eq_true, ↓reduceIte, Option.bind_some, Sum.elim_inl, Sum.elim_inr, ↓wq_f0b, ↓wq_f1b, ↓wq_f2b, ↓wq_r0b, ↓wq_r1b, ↓Option.bind_some, ↓wq_b aa, ↓wq_b a8]
      · have hf := fne (b i') (by omega)
        rw [← stop M2 at' (Int32.ofNat (b i')) fr' (Int32.ofNat 0) ri sorts' values' (k + 1) hf, xf_rf_oneLine_120_s (N := M2 + 1)]
        simp (disch := omega) only [wq_ltT, wq_ltF, wq_inT, wq_clamp, wq_eqF, wq_eqm, wq_meq, wq_add, wq_mul, wq_subT, eq_self, Bool.false_eq_true, ↓reduceIte, Option.bind_some, Sum.elim_inl, Sum.elim_inr, ↓wq_f0b, ↓wq_f1b, ↓wq_f2b, ↓wq_r0b, ↓wq_r1b, ↓Option.bind_some, m1, ↓wq_b pk, ei, ↓wq_b a9, hf, ↓xf_rf_oneLine_189_s, ↓xf_rf_oneLine_190_s]
end
