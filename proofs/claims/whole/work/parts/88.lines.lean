/-! READ: all lines, and what is missing. -/
theorem wz_N_trans {ri le li na nu pa so va ri' le' li' na' nu' pa' so' va' ri2 le2 li2 na2 nu2 pa2 so2 va2 : Nat → Int32} (h : wz_N ri le li na nu pa so va ri' le' li' na' nu' pa' so' va') (h2 : wz_N ri' le' li' na' nu' pa' so' va' ri2 le2 li2 na2 nu2 pa2 so2 va2) : wz_N ri le li na nu pa so va ri2 le2 li2 na2 nu2 pa2 so2 va2 := by
  obtain ⟨a1, a2, a3, a4⟩ := h
  obtain ⟨b1, b2, b3, b4⟩ := h2
  exact ⟨fun y hy => ⟨(b1 y hy).1.trans (a1 y hy).1, (b1 y hy).2.1.trans (a1 y hy).2.1, (b1 y hy).2.2.trans (a1 y hy).2.2⟩, fun y hy => ⟨(b2 y hy).1.trans (a2 y hy).1, (b2 y hy).2.1.trans (a2 y hy).2.1, (b2 y hy).2.2.trans (a2 y hy).2.2⟩, fun y hy => (b3 y hy).trans (a3 y hy), fun y hy => (b4 y hy).trans (a4 y hy)⟩
section
variable {E T : Nat} {ch : Nat → Nat} {signs text : Nat → Int32} {b st : Nat → Nat} {o : Nat → Bool} {begin_ end_ first digits : Nat → Int32}
theorem wz_all (hX : wt_X E ch signs text) (hK : wt_Tok ch E false T b st o begin_ end_ first digits) {N : Nat} (hN : 1300 ≤ N) (th : Int32) :
    ∀ l r i p u M1 M2 (oo a z m t c s : Nat → Nat) (name : Nat → Int64) (number order size sort value start items numbers letters names parts sorts values ritems lines : Nat → Int32) (fr : Int32), r + l = 40 → l + 1 < M1 → l + 2 < M2 → i ≤ T → st i ≤ p → p ≤ b i → u ≤ st i → wz_O r oo a number order → wz_D r u a z m t c s name size sort value start items numbers letters names parts sorts values ritems → lines 1 = Int32.ofNat r →
    ∃ (ritems' letters' lines' names' numbers' parts' sorts' values' : Nat → Int32) (fr' at' : Int32) (i' : Nat) (name' : Nat → Int64) (number' order' size' sort' value' start' items' : Nat → Int32), i' ≤ T ∧ wz_N ritems letters lines names numbers parts sorts values ritems' letters' lines' names' numbers' parts' sorts' values' ∧
      ((∃ (r' u' : Nat) (oo' a' z' m' t' c' s' : Nat → Nat), u' ≤ 1200 ∧ lines' 1 = Int32.ofNat r' ∧ wz_O r' oo' a' number' order' ∧ wz_D r' u' a' z' m' t' c' s' name' size' sort' value' start' items' numbers' letters' names' parts' sorts' values' ritems' ∧
          xf_mr_readAll_17 (Int32.ofNat E) signs N M1 items (Int32.ofNat r) name number order (Int32.ofNat r) size sort start (Int32.ofNat u) value begin_ digits end_ first (Int32.ofNat i) (Int32.ofNat T) (Int32.ofNat r) = some (Int32.ofNat 1, items', Int32.ofNat r', name', number', order', Int32.ofNat r', size', sort', start', Int32.ofNat u', value', begin_, digits, end_, first, Int32.ofNat i', Int32.ofNat T) ∧
          xf_rf_read_22 text N M2 (Int32.ofNat p) (-1) fr ritems letters lines names numbers parts (Int32.ofNat E) sorts th values = xf_rf_read_62 text N N at' (-1) fr' ritems' letters' lines' names' numbers' parts' (Int32.ofNat E) sorts' th values' (Int32.ofNat 40)) ∨
       (∃ (li' ro' us' : Int32),
          xf_mr_readAll_17 (Int32.ofNat E) signs N M1 items (Int32.ofNat r) name number order (Int32.ofNat r) size sort start (Int32.ofNat u) value begin_ digits end_ first (Int32.ofNat i) (Int32.ofNat T) (Int32.ofNat r) = some (Int32.ofNat 0, items', li', name', number', order', ro', size', sort', start', us', value', begin_, digits, end_, first, Int32.ofNat i', Int32.ofNat T) ∧
          xf_rf_read_22 text N M2 (Int32.ofNat p) (-1) fr ritems letters lines names numbers parts (Int32.ofNat E) sorts th values = some (-1 - Int32.ofNat (b i'), at', Int32.ofNat (b i'), fr', ritems', letters', lines', names', numbers', parts', Int32.ofNat E, sorts', th, values'))) := by
  have hE := hX.1
  have hTE := hK.2.1
  have m1 : ((-1 : Int32) = -1) = True := eq_true rfl
  have fne : ∀ y, y ≤ 1200 → ¬ Int32.ofNat y = -1 := fun y hy hh => (wq_eqm (by omega)).mp hh
  intro l
  induction l with
  | zero =>
    intro r i p u M1 M2 oo a z m t c s name number order size sort value start items numbers letters names parts sorts values ritems lines fr hl hM1 hM2 hi h1 h2 hu hO hD hli
    obtain ⟨M1, rfl⟩ : ∃ M, M1 = M + 1 := ⟨M1 - 1, by omega⟩
    obtain ⟨M2, rfl⟩ : ∃ M, M2 = M + 1 + 1 := ⟨M2 - 2, by omega⟩
    have hb := wt_b_le hK hi
    have hs := wt_st_le hK hi
    have pk := wt_peek hX hK hN hi h1 h2
    have mo := wt_more hX hK hi
    have ab := wt_a_lt hX hK i
    by_cases hiT : i < T
    · have ea : wt_a ch T b i = ch (b i) := if_pos hiT
      have c32 := (hX.2 _ (hK.1.2 i hiT).2.1).2.2
      obtain ⟨ri, le, li, na, nu, pa, so, va, fr', i', j1, hN1, j3⟩ := wz_one hX hK hN hO hD hli hiT hu fr M1
      rcases j3 with ⟨_, _, _, _, _, _, _, _, _, _, _, _, _, _, _, _, _, hr, _⟩ | ⟨nm', nb', or', sz', so', va', st', it', li', ro', us', at', c1, c2⟩
      · omega
      · have hb' := wt_b_le hK j1
        refine ⟨ri, le, li, na, nu, pa, so, va, fr', at', i', nm', nb', or', sz', so', va', st', it', j1, hN1, Or.inr ⟨li', ro', us', c1, ?_⟩⟩
        rw [xf_rf_read_22_s]
        simp (disch := omega) only [wq_ltT, wq_ltF, wq_inT, wq_clamp, wq_eqF, wq_eqm, wq_meq, wq_add, wq_mul, wq_subT, eq_self, Bool.false_eq_true, ↓reduceIte, Option.bind_some, Sum.elim_inl, Sum.elim_inr, ↓wq_f0b, ↓wq_f1b, ↓wq_f2b, ↓wq_r0b, ↓wq_r1b, ↓Option.bind_some, m1, ↓wq_b pk, ea, ↓wq_b c2]
        have f1 := fne (b i') (by omega)
        simp (disch := omega) only [↓xf_rf_read_22_s, ↓xf_rf_read_44_s, wq_ltT, wq_ltF, wq_inT, wq_clamp, wq_eqF, wq_eqm, wq_meq, wq_add, wq_mul, wq_subT, eq_self, Bool.false_eq_true, ↓reduceIte, Option.bind_some, Sum.elim_inl, Sum.elim_inr, ↓wq_f0b, ↓wq_f1b, ↓wq_f2b, ↓wq_r0b, ↓wq_r1b, ↓Option.bind_some, f1]
    · rw [if_neg hiT] at mo
      have ea : wt_a ch T b i = 0 := if_neg hiT
      have hr40 := hO.1
      refine ⟨ritems, letters, lines, names, numbers, parts, sorts, values, fr, Int32.ofNat (b i), i, name, number, order, size, sort, value, start, items, hi, ⟨fun _ _ => ⟨rfl, rfl, rfl⟩, fun _ _ => ⟨rfl, rfl, rfl⟩, fun _ _ => rfl, fun _ _ => rfl⟩, Or.inl ⟨r, u, oo, a, z, m, t, c, s, by omega, hli, hO, hD, ?_, ?_⟩⟩
      · simp (disch := omega) only [↓xf_mr_readAll_17_s, ↓xf_mr_readAll_67_s, wq_ltT, wq_ltF, wq_inT, wq_clamp, wq_eqF, wq_eqm, wq_meq, wq_add, wq_mul, wq_subT, eq_self, Bool.false_eq_true, ↓reduceIte, Option.bind_some, Sum.elim_inl, Sum.elim_inr, ↓wq_f0b, ↓wq_f1b, ↓wq_f2b, ↓wq_r0b, ↓wq_r1b, ↓Option.bind_some, ↓wq_b mo]
      · rw [xf_rf_read_22_s]
        simp (disch := omega) only [↓xf_rf_read_44_s, wq_ltT, wq_ltF, wq_inT, wq_clamp, wq_eqF, wq_eqm, wq_meq, wq_add, wq_mul, wq_subT, eq_self, Bool.false_eq_true, ↓reduceIte, Option.bind_some, Sum.elim_inl, Sum.elim_inr, ↓wq_f0b, ↓wq_f1b, ↓wq_f2b, ↓wq_r0b, ↓wq_r1b, ↓Option.bind_some, m1, ↓wq_b pk, ea]
  | succ l ih =>
    intro r i p u M1 M2 oo a z m t c s name number order size sort value start items numbers letters names parts sorts values ritems lines fr hl hM1 hM2 hi h1 h2 hu hO hD hli
    obtain ⟨M1, rfl⟩ : ∃ M, M1 = M + 1 := ⟨M1 - 1, by omega⟩
    obtain ⟨M2, rfl⟩ : ∃ M, M2 = M + 1 + 1 := ⟨M2 - 2, by omega⟩
    have hb := wt_b_le hK hi
    have hs := wt_st_le hK hi
    have pk := wt_peek hX hK hN hi h1 h2
    have mo := wt_more hX hK hi
    have ab := wt_a_lt hX hK i
    by_cases hiT : i < T
    · have ea : wt_a ch T b i = ch (b i) := if_pos hiT
      have c32 := (hX.2 _ (hK.1.2 i hiT).2.1).2.2
      obtain ⟨ri, le, li, na, nu, pa, so, va, fr', i', j1, hN1, j3⟩ := wz_one hX hK hN hO hD hli hiT hu fr M1
      rcases j3 with ⟨u', p', oo', a', z', m', t', c', s', nm', nb', or', sz', so', va', st', it', hr, q1, q2, q3, q4, q5, q6, q7, c1, c2⟩ | ⟨nm', nb', or', sz', so', va', st', it', li', ro', us', at', c1, c2⟩
      · obtain ⟨ri2, le2, li2, na2, nu2, pa2, so2, va2, fr2, at2, i2, nm2, nb2, or2, sz2, so3, va3, st2, it2, k1, hN2, k3⟩ := ih (r + 1) i' p' u' M1 (M2 + 1) oo' a' z' m' t' c' s' nm' nb' or' sz' so' va' st' it' nu le na pa so va ri li fr' (by omega) (by omega) (by omega) j1 q3 q4 q2 q6 q7 q5
        have rs : xf_rf_read_22 text N (M2 + 1 + 1) (Int32.ofNat p) (-1) fr ritems letters lines names numbers parts (Int32.ofNat E) sorts th values = xf_rf_read_22 text N (M2 + 1) (Int32.ofNat p') (-1) fr' ri le li na nu pa (Int32.ofNat E) so th va := by
          rw [xf_rf_read_22_s]
          simp (disch := omega) only [wq_ltT, wq_ltF, wq_inT, wq_clamp, wq_eqF, wq_eqm, wq_meq, wq_add, wq_mul, wq_subT, eq_self, Bool.false_eq_true, ↓reduceIte, Option.bind_some, Sum.elim_inl, Sum.elim_inr, ↓wq_f0b, ↓wq_f1b, ↓wq_f2b, ↓wq_r0b, ↓wq_r1b, ↓Option.bind_some, m1, ↓wq_b pk, ea, ↓wq_b c2]
        rw [c1, rs]
        exact ⟨ri2, le2, li2, na2, nu2, pa2, so2, va2, fr2, at2, i2, nm2, nb2, or2, sz2, so3, va3, st2, it2, k1, wz_N_trans hN1 hN2, k3⟩
      · have hb' := wt_b_le hK j1
        refine ⟨ri, le, li, na, nu, pa, so, va, fr', at', i', nm', nb', or', sz', so', va', st', it', j1, hN1, Or.inr ⟨li', ro', us', c1, ?_⟩⟩
        rw [xf_rf_read_22_s]
        simp (disch := omega) only [wq_ltT, wq_ltF, wq_inT, wq_clamp, wq_eqF, wq_eqm, wq_meq, wq_add, wq_mul, wq_subT, eq_self, Bool.false_eq_true, ↓reduceIte, Option.bind_some, Sum.elim_inl, Sum.elim_inr, ↓wq_f0b, ↓wq_f1b, ↓wq_f2b, ↓wq_r0b, ↓wq_r1b, ↓Option.bind_some, m1, ↓wq_b pk, ea, ↓wq_b c2]
        have f1 := fne (b i') (by omega)
        simp (disch := omega) only [↓xf_rf_read_22_s, ↓xf_rf_read_44_s, wq_ltT, wq_ltF, wq_inT, wq_clamp, wq_eqF, wq_eqm, wq_meq, wq_add, wq_mul, wq_subT, eq_self, Bool.false_eq_true, ↓reduceIte, Option.bind_some, Sum.elim_inl, Sum.elim_inr, ↓wq_f0b, ↓wq_f1b, ↓wq_f2b, ↓wq_r0b, ↓wq_r1b, ↓Option.bind_some, f1]
    · rw [if_neg hiT] at mo
      have ea : wt_a ch T b i = 0 := if_neg hiT
      have hr40 := hO.1
      refine ⟨ritems, letters, lines, names, numbers, parts, sorts, values, fr, Int32.ofNat (b i), i, name, number, order, size, sort, value, start, items, hi, ⟨fun _ _ => ⟨rfl, rfl, rfl⟩, fun _ _ => ⟨rfl, rfl, rfl⟩, fun _ _ => rfl, fun _ _ => rfl⟩, Or.inl ⟨r, u, oo, a, z, m, t, c, s, by omega, hli, hO, hD, ?_, ?_⟩⟩
      · simp (disch := omega) only [↓xf_mr_readAll_17_s, ↓xf_mr_readAll_67_s, wq_ltT, wq_ltF, wq_inT, wq_clamp, wq_eqF, wq_eqm, wq_meq, wq_add, wq_mul, wq_subT, eq_self, Bool.false_eq_true, ↓reduceIte, Option.bind_some, Sum.elim_inl, Sum.elim_inr, ↓wq_f0b, ↓wq_f1b, ↓wq_f2b, ↓wq_r0b, ↓wq_r1b, ↓Option.bind_some, ↓wq_b mo]
      · rw [xf_rf_read_22_s]
        simp (disch := omega) only [↓xf_rf_read_44_s, wq_ltT, wq_ltF, wq_inT, wq_clamp, wq_eqF, wq_eqm, wq_meq, wq_add, wq_mul, wq_subT, eq_self, Bool.false_eq_true, ↓reduceIte, Option.bind_some, Sum.elim_inl, Sum.elim_inr, ↓wq_f0b, ↓wq_f1b, ↓wq_f2b, ↓wq_r0b, ↓wq_r1b, ↓Option.bind_some, m1, ↓wq_b pk, ea]
end
/-- an argument refers to a line that is not there -/
def wz_lost (r : Nat) (a t c : Nat → Nat) (values ritems : Nat → Int32) (x : Nat) : Prop :=
  (t x = 2 ∧ ∀ j, j < r → ¬ Int32.ofNat (a j) = values (320 + x)) ∨ (t x = 4 ∧ ∃ i, i < c x ∧ ∀ j, j < r → ¬ Int32.ofNat (a j) = ritems (6400 + 20 * x + i))
section
variable {r u : Nat} {oo a z m t c s : Nat → Nat} {name : Nat → Int64} {number order size sort value start items numbers letters names parts sorts values ritems lines : Nat → Int32}
/-- the class finds one -/
theorem wz_isLost (hO : wz_O r oo a number order) (hD : wz_D r u a z m t c s name size sort value start items numbers letters names parts sorts values ritems) (hl : lines 1 = Int32.ofNat r) (hu : u ≤ 1200) {N : Nat} (hN : 1300 ≤ N) {j k : Nat} (hj : j < r) (hk : k < z j) :
    (wz_lost r a t c values ritems (j * 8 + k) ∧ xf_md_isLost items (Int32.ofNat r) number order sort start (Int32.ofNat u) value N (Int32.ofNat (j * 8 + k)) = some (Int32.ofNat 1)) ∨
    (¬ wz_lost r a t c values ritems (j * 8 + k) ∧ xf_md_isLost items (Int32.ofNat r) number order sort start (Int32.ofNat u) value N (Int32.ofNat (j * 8 + k)) = some (Int32.ofNat 0)) := by
  have ef0 : (fits .boolean (.int (Int32.ofNat 0)) = true) = True := by decide
  have ef1 : (fits .boolean (.int (Int32.ofNat 1)) = true) = True := by decide
  have m1 : ((-1 : Int32) = -1) = True := eq_true rfl
  have hr := hO.1
  have fnd := wz_found (numbers := numbers) (lines := lines) hO hl (fun j hj => (hD.1 j hj).1) hN
  obtain ⟨d1, d2, d3, d4, d5, d6, d7, d8, d9, d10, d11⟩ := hD.1 j hj
  obtain ⟨a1, a2, a3, a4, a5, a6, a7⟩ := d11 k hk
  generalize hx : j * 8 + k = x at *
  have hx3 : x < 320 := by omega
  have t6 := a7.1
  have c20 := a7.2.1
  by_cases t2 : t x = 2
  · rw [t2] at a1
    rcases fnd (values (320 + x)) with ⟨⟨j', f1, f2⟩, q, q', f3, f4, f5, f6⟩ | ⟨f1, f5, f6⟩
    · refine Or.inr ⟨?_, ?_⟩
      · rintro (⟨_, h⟩ | ⟨h, _⟩)
        · exact h j' f1 f2
        · omega
      · simp (disch := omega) only [↓xf_md_isLost_s, ↓xf_md_isLost_29_s, wq_ltT, wq_ltF, wq_inT, wq_clamp, wq_eqF, wq_eqm, wq_meq, wq_add, wq_mul, wq_subT, eq_self, Bool.false_eq_true, ↓reduceIte, Option.bind_some, Sum.elim_inl, Sum.elim_inr, ↓wq_f0b, ↓wq_f1b, ↓wq_f2b, ↓wq_r0b, ↓wq_r1b, ↓Option.bind_some, a1, a3, ↓wq_b f5, ef0]
    · refine Or.inl ⟨Or.inl ⟨t2, f1⟩, ?_⟩
      simp (disch := omega) only [↓xf_md_isLost_s, ↓xf_md_isLost_29_s, wq_ltT, wq_ltF, wq_inT, wq_clamp, wq_eqF, wq_eqm, wq_meq, wq_add, wq_mul, wq_subT, eq_self, Bool.false_eq_true, ↓reduceIte, Option.bind_some, Sum.elim_inl, Sum.elim_inr, ↓wq_f0b, ↓wq_f1b, ↓wq_f2b, ↓wq_r0b, ↓wq_r1b, ↓Option.bind_some, a1, a3, ↓wq_b f5, m1, ef1]
  · by_cases t4 : t x = 4
    · rw [t4] at a1
      have vc := (a7.2.2.2.2.2.2.1 t4).1
      rw [vc] at a3
      have loop : ∀ l i M, i + l = c x → l < M → ((∃ i', i ≤ i' ∧ i' < c x ∧ ∀ j, j < r → ¬ Int32.ofNat (a j) = ritems (6400 + 20 * x + i')) ∧ xf_md_isLost_42 items (Int32.ofNat r) number order sort start (Int32.ofNat u) value N M (Int32.ofNat x) (Int32.ofNat i) = some (Int32.ofNat 1)) ∨ ((¬ ∃ i', i ≤ i' ∧ i' < c x ∧ ∀ j, j < r → ¬ Int32.ofNat (a j) = ritems (6400 + 20 * x + i')) ∧ xf_md_isLost_42 items (Int32.ofNat r) number order sort start (Int32.ofNat u) value N M (Int32.ofNat x) (Int32.ofNat i) = some (Int32.ofNat 0)) := by
        intro l
        induction l with
        | zero =>
          intro i M hi hM
          obtain ⟨M', rfl⟩ : ∃ M', M = M' + 1 := ⟨M - 1, by omega⟩
          refine Or.inr ⟨fun ⟨i', h1, h2, _⟩ => by omega, ?_⟩
          simp (disch := omega) only [↓xf_md_isLost_42_s, ↓xf_md_isLost_74_s, wq_ltT, wq_ltF, wq_inT, wq_clamp, wq_eqF, wq_eqm, wq_meq, wq_add, wq_mul, wq_subT, eq_self, Bool.false_eq_true, ↓reduceIte, Option.bind_some, Sum.elim_inl, Sum.elim_inr, ↓wq_f0b, ↓wq_f1b, ↓wq_f2b, ↓wq_r0b, ↓wq_r1b, ↓Option.bind_some, a3]
        | succ l ih =>
          intro i M hi hM
          obtain ⟨M', rfl⟩ : ∃ M', M = M' + 1 := ⟨M - 1, by omega⟩
          have ia : xf_md_itemAt items start (Int32.ofNat u) (Int32.ofNat x) (Int32.ofNat i) = some (ritems (6400 + 20 * x + i)) := by
            have e6 := a6 i (by omega)
            simp (disch := omega) only [↓xf_md_itemAt_31_s, ↓xf_md_itemAt_30_s, ↓xf_md_itemAt_s, wq_ltT, wq_ltF, wq_inT, wq_clamp, wq_eqF, wq_eqm, wq_meq, wq_add, wq_mul, wq_subT, eq_self, Bool.false_eq_true, ↓reduceIte, Option.bind_some, Sum.elim_inl, Sum.elim_inr, ↓wq_f0b, ↓wq_f1b, ↓wq_f2b, ↓wq_r0b, ↓wq_r1b, ↓Option.bind_some, a4, e6]
          rcases fnd (ritems (6400 + 20 * x + i)) with ⟨⟨j', f1, f2⟩, q, q', f3, f4, f5, f6⟩ | ⟨f1, f5, f6⟩
          · have st : xf_md_isLost_42 items (Int32.ofNat r) number order sort start (Int32.ofNat u) value N (M' + 1) (Int32.ofNat x) (Int32.ofNat i) = xf_md_isLost_42 items (Int32.ofNat r) number order sort start (Int32.ofNat u) value N M' (Int32.ofNat x) (Int32.ofNat (i + 1)) := by
              rw [xf_md_isLost_42_s]
              simp (disch := omega) only [wq_ltT, wq_ltF, wq_inT, wq_clamp, wq_eqF, wq_eqm, wq_meq, wq_add, wq_mul, wq_subT, eq_self, Bool.false_eq_true, ↓reduceIte, Option.bind_some, Sum.elim_inl, Sum.elim_inr, ↓wq_f0b, ↓wq_f1b, ↓wq_f2b, ↓wq_r0b, ↓wq_r1b, ↓Option.bind_some, a3, ↓wq_b ia, ↓wq_b f5]
            rw [st]
            rcases ih (i + 1) M' (by omega) (by omega) with ⟨⟨i', g1, g2, g3⟩, g4⟩ | ⟨g3, g4⟩
            · exact Or.inl ⟨⟨i', by omega, g2, g3⟩, g4⟩
            · refine Or.inr ⟨fun ⟨i', h1, h2, h3⟩ => g3 ⟨i', ?_, h2, h3⟩, g4⟩
              by_cases e : i' = i
              · rw [e] at h3
                exact absurd f2 (h3 j' f1)
              · omega
          · refine Or.inl ⟨⟨i, Nat.le_refl _, by omega, f1⟩, ?_⟩
            simp (disch := omega) only [↓xf_md_isLost_42_s, wq_ltT, wq_ltF, wq_inT, wq_clamp, wq_eqF, wq_eqm, wq_meq, wq_add, wq_mul, wq_subT, eq_self, Bool.false_eq_true, ↓reduceIte, Option.bind_some, Sum.elim_inl, Sum.elim_inr, ↓wq_f0b, ↓wq_f1b, ↓wq_f2b, ↓wq_r0b, ↓wq_r1b, ↓Option.bind_some, a3, ↓wq_b ia, ↓wq_b f5, m1]
      have e42 : xf_md_isLost items (Int32.ofNat r) number order sort start (Int32.ofNat u) value N (Int32.ofNat x) = xf_md_isLost_42 items (Int32.ofNat r) number order sort start (Int32.ofNat u) value N N (Int32.ofNat x) (Int32.ofNat 0) := by
        rw [xf_md_isLost_s]
        simp (disch := omega) only [wq_ltT, wq_ltF, wq_inT, wq_clamp, wq_eqF, wq_eqm, wq_meq, wq_add, wq_mul, wq_subT, eq_self, Bool.false_eq_true, ↓reduceIte, Option.bind_some, Sum.elim_inl, Sum.elim_inr, ↓wq_f0b, ↓wq_f1b, ↓wq_f2b, ↓wq_r0b, ↓wq_r1b, ↓Option.bind_some, a1]
      rw [e42]
      rcases loop (c x) 0 N (by omega) (by omega) with ⟨⟨i', g1, g2, g3⟩, g4⟩ | ⟨g3, g4⟩
      · exact Or.inl ⟨Or.inr ⟨t4, i', g2, g3⟩, g4⟩
      · refine Or.inr ⟨?_, g4⟩
        rintro (⟨h, _⟩ | ⟨_, i', h1, h2⟩)
        · omega
        · exact g3 ⟨i', by omega, h1, h2⟩
    · refine Or.inr ⟨?_, ?_⟩
      · rintro (⟨h, _⟩ | ⟨h, _⟩)
        · exact t2 h
        · exact t4 h
      · simp (disch := omega) only [↓xf_md_isLost_s, ↓xf_md_isLost_74_s, wq_ltT, wq_ltF, wq_inT, wq_clamp, wq_eqF, wq_eqm, wq_meq, wq_add, wq_mul, wq_subT, eq_self, Bool.false_eq_true, ↓reduceIte, Option.bind_some, Sum.elim_inl, Sum.elim_inr, ↓wq_f0b, ↓wq_f1b, ↓wq_f2b, ↓wq_r0b, ↓wq_r1b, ↓Option.bind_some, a1]
/-- the reference finds one -/
theorem wz_isMissing (hO : wz_O r oo a number order) (hD : wz_D r u a z m t c s name size sort value start items numbers letters names parts sorts values ritems) (hl : lines 1 = Int32.ofNat r) {N : Nat} (hN : 1300 ≤ N) {j : Nat} (hj : j < r) :
    ((∃ k, k < z j ∧ wz_lost r a t c values ritems (j * 8 + k)) ∧ xf_rf_isMissing ritems lines numbers parts sorts values N (Int32.ofNat (40 + j)) = some (Int32.ofNat 1)) ∨
    ((¬ ∃ k, k < z j ∧ wz_lost r a t c values ritems (j * 8 + k)) ∧ xf_rf_isMissing ritems lines numbers parts sorts values N (Int32.ofNat (40 + j)) = some (Int32.ofNat 0)) := by
  have ef0 : (fits .boolean (.int (Int32.ofNat 0)) = true) = True := by decide
  have ef1 : (fits .boolean (.int (Int32.ofNat 1)) = true) = True := by decide
  have m1 : ((-1 : Int32) = -1) = True := eq_true rfl
  have hr := hO.1
  have fnd := wz_found (numbers := numbers) (lines := lines) hO hl (fun j hj => (hD.1 j hj).1) hN
  obtain ⟨d1, d2, d3, d4, d5, d6, d7, d8, d9, d10, d11⟩ := hD.1 j hj
  -- one argument
  have arg : ∀ k M fl, k < z j → (fl = 0 ∨ fl = 1) → ∃ fl', (fl' = 0 ∨ fl' = 1) ∧ (fl' = 1 ↔ fl = 1 ∨ wz_lost r a t c values ritems (j * 8 + k)) ∧ xf_rf_isMissing_7 ritems lines numbers parts sorts values N (M + 1) (Int32.ofNat (40 + j)) (Int32.ofNat fl) (Int32.ofNat (320 + (j * 8 + k))) = xf_rf_isMissing_7 ritems lines numbers parts sorts values N M (Int32.ofNat (40 + j)) (Int32.ofNat fl') (Int32.ofNat (320 + (j * 8 + k) + 1)) := by
    intro k M fl hk hfl
    obtain ⟨a1, a2, a3, a4, a5, a6, a7⟩ := d11 k hk
    have hx3 : j * 8 + k < 320 := by omega
    have hend : 320 + (j * 8 + k) < 8 * (40 + j) + z j := by omega
    rw [xf_rf_isMissing_7_s]
    generalize hx : j * 8 + k = x at *
    have t6 := a7.1
    have c20 := a7.2.1
    -- a sort without items
    have plain : ∀ (fl' : Nat) (k7 : Int32 → Int32 → Int32 → Option Int32), ¬ t x = 4 → xf_rf_isMissing_57 ritems lines numbers parts sorts values k7 N (Int32.ofNat (40 + j)) (Int32.ofNat fl') (Int32.ofNat (320 + x)) = k7 (Int32.ofNat (40 + j)) (Int32.ofNat fl') (Int32.ofNat (320 + x + 1)) := by
      intro fl' k7 t4
      obtain ⟨N', rfl⟩ : ∃ N', N = N' + 1 := ⟨N - 1, by omega⟩
      by_cases hv : Int32.ofNat 0 < values (320 + x)
      · simp (disch := omega) only [↓xf_rf_isMissing_57_s, ↓xf_rf_isMissing_60_s, ↓xf_rf_isMissing_118_s, wq_ltT, wq_ltF, wq_inT, wq_clamp, wq_eqF, wq_eqm, wq_meq, wq_add, wq_mul, wq_subT, eq_self, Bool.false_eq_true, ↓reduceIte, Option.bind_some, Sum.elim_inl, Sum.elim_inr, ↓wq_f0b, ↓wq_f1b, ↓wq_f2b, ↓wq_r0b, ↓wq_r1b, ↓Option.bind_some, a2, hv]
      · simp (disch := omega) only [↓xf_rf_isMissing_57_s, ↓xf_rf_isMissing_60_s, ↓xf_rf_isMissing_118_s, wq_ltT, wq_ltF, wq_inT, wq_clamp, wq_eqF, wq_eqm, wq_meq, wq_add, wq_mul, wq_subT, eq_self, Bool.false_eq_true, ↓reduceIte, Option.bind_some, Sum.elim_inl, Sum.elim_inr, ↓wq_f0b, ↓wq_f1b, ↓wq_f2b, ↓wq_r0b, ↓wq_r1b, ↓Option.bind_some, a2, hv]
    by_cases t2 : t x = 2
    · rw [t2] at a2
      have nl4 : ¬ t x = 4 := by omega
      rcases hfl with rfl | rfl
      · rcases fnd (values (320 + x)) with ⟨⟨j', f1, f2⟩, q, q', f3, f4, f5, f6⟩ | ⟨f1, f5, f6⟩
        · refine ⟨0, Or.inl rfl, ⟨fun h => absurd h (by omega), ?_⟩, ?_⟩
          · rintro (h | ⟨_, h⟩ | ⟨h, _⟩)
            · omega
            · exact absurd f2 (h j' f1)
            · omega
          · rw [← plain 0 (xf_rf_isMissing_7 ritems lines numbers parts sorts values N M) nl4]
            simp (disch := omega) only [↓xf_rf_isMissing_56_s, wq_ltT, wq_ltF, wq_inT, wq_clamp, wq_eqF, wq_eqm, wq_meq, wq_add, wq_mul, wq_subT, eq_self, Bool.false_eq_true, ↓reduceIte, Option.bind_some, Sum.elim_inl, Sum.elim_inr, ↓wq_f0b, ↓wq_f1b, ↓wq_f2b, ↓wq_r0b, ↓wq_r1b, ↓Option.bind_some, d7, a2, ↓wq_b f6]
        · refine ⟨1, Or.inr rfl, ⟨fun _ => Or.inr (Or.inl ⟨t2, f1⟩), fun _ => rfl⟩, ?_⟩
          rw [← plain 1 (xf_rf_isMissing_7 ritems lines numbers parts sorts values N M) nl4]
          simp (disch := omega) only [↓xf_rf_isMissing_51_s, ↓xf_rf_isMissing_56_s, wq_ltT, wq_ltF, wq_inT, wq_clamp, wq_eqF, wq_eqm, wq_meq, wq_add, wq_mul, wq_subT, eq_self, Bool.false_eq_true, ↓reduceIte, Option.bind_some, Sum.elim_inl, Sum.elim_inr, ↓wq_f0b, ↓wq_f1b, ↓wq_f2b, ↓wq_r0b, ↓wq_r1b, ↓Option.bind_some, d7, a2, ↓wq_b f6, m1]
      · refine ⟨1, Or.inr rfl, ⟨fun _ => Or.inl rfl, fun _ => rfl⟩, ?_⟩
        rw [← plain 1 (xf_rf_isMissing_7 ritems lines numbers parts sorts values N M) nl4]
        simp (disch := omega) only [↓xf_rf_isMissing_51_s, ↓xf_rf_isMissing_56_s, wq_ltT, wq_ltF, wq_inT, wq_clamp, wq_eqF, wq_eqm, wq_meq, wq_add, wq_mul, wq_subT, eq_self, Bool.false_eq_true, ↓reduceIte, Option.bind_some, Sum.elim_inl, Sum.elim_inr, ↓wq_f0b, ↓wq_f1b, ↓wq_f2b, ↓wq_r0b, ↓wq_r1b, ↓Option.bind_some, d7, a2]
    · by_cases t4 : t x = 4
      · rw [t4] at a2
        have vc := (a7.2.2.2.2.2.2.1 t4).1
        have loop : ∀ l i Mx fl (k7 : Int32 → Int32 → Int32 → Option Int32), (fl = 0 ∨ fl = 1) → i + l = c x → l < Mx → ∃ fl', (fl' = 0 ∨ fl' = 1) ∧ (fl' = 1 ↔ fl = 1 ∨ ∃ i', i ≤ i' ∧ i' < c x ∧ ∀ j, j < r → ¬ Int32.ofNat (a j) = ritems (6400 + 20 * x + i')) ∧ xf_rf_isMissing_60 ritems lines numbers parts sorts values k7 N Mx (Int32.ofNat (40 + j)) (Int32.ofNat fl) (Int32.ofNat (320 + x)) (Int32.ofNat i) = k7 (Int32.ofNat (40 + j)) (Int32.ofNat fl') (Int32.ofNat (320 + x + 1)) := by
          intro l
          induction l with
          | zero =>
            intro i Mx fl k7 hf hi hM
            obtain ⟨M', rfl⟩ : ∃ M', Mx = M' + 1 := ⟨Mx - 1, by omega⟩
            refine ⟨fl, hf, ⟨fun h => Or.inl h, ?_⟩, ?_⟩
            · rintro (h | ⟨i', h1, h2, _⟩)
              · exact h
              · omega
            · simp (disch := omega) only [↓xf_rf_isMissing_60_s, ↓xf_rf_isMissing_118_s, wq_ltT, wq_ltF, wq_inT, wq_clamp, wq_eqF, wq_eqm, wq_meq, wq_add, wq_mul, wq_subT, eq_self, Bool.false_eq_true, ↓reduceIte, Option.bind_some, Sum.elim_inl, Sum.elim_inr, ↓wq_f0b, ↓wq_f1b, ↓wq_f2b, ↓wq_r0b, ↓wq_r1b, ↓Option.bind_some, vc]
          | succ l ih =>
            intro i Mx fl k7 hf hi hM
            obtain ⟨M', rfl⟩ : ∃ M', Mx = M' + 1 := ⟨Mx - 1, by omega⟩
            have e20 : 20 * (320 + x) + i = 6400 + 20 * x + i := by omega
            have key : ∃ f1, (f1 = 0 ∨ f1 = 1) ∧ (f1 = 1 ↔ fl = 1 ∨ ∀ j, j < r → ¬ Int32.ofNat (a j) = ritems (6400 + 20 * x + i)) ∧ xf_rf_isMissing_60 ritems lines numbers parts sorts values k7 N (M' + 1) (Int32.ofNat (40 + j)) (Int32.ofNat fl) (Int32.ofNat (320 + x)) (Int32.ofNat i) = xf_rf_isMissing_60 ritems lines numbers parts sorts values k7 N M' (Int32.ofNat (40 + j)) (Int32.ofNat f1) (Int32.ofNat (320 + x)) (Int32.ofNat (i + 1)) := by
              rcases hf with rfl | rfl
              · rcases fnd (ritems (6400 + 20 * x + i)) with ⟨⟨j', f1, f2⟩, q, q', f3, f4, f5, f6⟩ | ⟨f1, f5, f6⟩
                · refine ⟨0, Or.inl rfl, ⟨fun h => absurd h (by omega), ?_⟩, ?_⟩
                  · rintro (h | h)
                    · omega
                    · exact absurd f2 (h j' f1)
                  · rw [xf_rf_isMissing_60_s]
                    simp (disch := omega) only [↓xf_rf_isMissing_111_s, wq_ltT, wq_ltF, wq_inT, wq_clamp, wq_eqF, wq_eqm, wq_meq, wq_add, wq_mul, wq_subT, eq_self, Bool.false_eq_true, ↓reduceIte, Option.bind_some, Sum.elim_inl, Sum.elim_inr, ↓wq_f0b, ↓wq_f1b, ↓wq_f2b, ↓wq_r0b, ↓wq_r1b, ↓Option.bind_some, vc, a2, e20, ↓wq_b f6]
                · refine ⟨1, Or.inr rfl, ⟨fun _ => Or.inr f1, fun _ => rfl⟩, ?_⟩
                  rw [xf_rf_isMissing_60_s]
                  simp (disch := omega) only [↓xf_rf_isMissing_106_s, ↓xf_rf_isMissing_111_s, wq_ltT, wq_ltF, wq_inT, wq_clamp, wq_eqF, wq_eqm, wq_meq, wq_add, wq_mul, wq_subT, eq_self, Bool.false_eq_true, ↓reduceIte, Option.bind_some, Sum.elim_inl, Sum.elim_inr, ↓wq_f0b, ↓wq_f1b, ↓wq_f2b, ↓wq_r0b, ↓wq_r1b, ↓Option.bind_some, vc, a2, e20, ↓wq_b f6, m1]
              · refine ⟨1, Or.inr rfl, ⟨fun _ => Or.inl rfl, fun _ => rfl⟩, ?_⟩
                rw [xf_rf_isMissing_60_s]
                simp (disch := omega) only [↓xf_rf_isMissing_106_s, ↓xf_rf_isMissing_111_s, wq_ltT, wq_ltF, wq_inT, wq_clamp, wq_eqF, wq_eqm, wq_meq, wq_add, wq_mul, wq_subT, eq_self, Bool.false_eq_true, ↓reduceIte, Option.bind_some, Sum.elim_inl, Sum.elim_inr, ↓wq_f0b, ↓wq_f1b, ↓wq_f2b, ↓wq_r0b, ↓wq_r1b, ↓Option.bind_some, vc, a2]
            obtain ⟨f1, g1, g2, g3⟩ := key
            obtain ⟨f2, h1, h2, h3⟩ := ih (i + 1) M' f1 k7 g1 (by omega) (by omega)
            refine ⟨f2, h1, h2.trans ⟨?_, ?_⟩, g3.trans h3⟩
            · rintro (h | ⟨i', w1, w2, w3⟩)
              · rcases g2.mp h with h | h
                · exact Or.inl h
                · exact Or.inr ⟨i, Nat.le_refl _, by omega, h⟩
              · exact Or.inr ⟨i', by omega, w2, w3⟩
            · rintro (h | ⟨i', w1, w2, w3⟩)
              · exact Or.inl (g2.mpr (Or.inl h))
              · by_cases e : i' = i
                · rw [e] at w3
                  exact Or.inl (g2.mpr (Or.inr w3))
                · exact Or.inr ⟨i', by omega, w2, w3⟩
        obtain ⟨fl', g1, g2, g3⟩ := loop (c x) 0 N fl (xf_rf_isMissing_7 ritems lines numbers parts sorts values N M) hfl (by omega) (by omega)
        refine ⟨fl', g1, g2.trans ⟨?_, ?_⟩, ?_⟩
        · rintro (h | ⟨i', _, w2, w3⟩)
          · exact Or.inl h
          · exact Or.inr (Or.inr ⟨t4, i', w2, w3⟩)
        · rintro (h | ⟨h, _⟩ | ⟨_, i', w2, w3⟩)
          · exact Or.inl h
          · omega
          · exact Or.inr ⟨i', by omega, w2, w3⟩
        · rw [← g3]
          simp (disch := omega) only [↓xf_rf_isMissing_57_s, wq_ltT, wq_ltF, wq_inT, wq_clamp, wq_eqF, wq_eqm, wq_meq, wq_add, wq_mul, wq_subT, eq_self, Bool.false_eq_true, ↓reduceIte, Option.bind_some, Sum.elim_inl, Sum.elim_inr, ↓wq_f0b, ↓wq_f1b, ↓wq_f2b, ↓wq_r0b, ↓wq_r1b, ↓Option.bind_some, d7, a2]
      · refine ⟨fl, hfl, ⟨fun h => Or.inl h, ?_⟩, ?_⟩
        · rintro (h | ⟨h, _⟩ | ⟨h, _⟩)
          · exact h
          · exact absurd h t2
          · exact absurd h t4
        · rw [← plain fl (xf_rf_isMissing_7 ritems lines numbers parts sorts values N M) t4]
          simp (disch := omega) only [wq_ltT, wq_ltF, wq_inT, wq_clamp, wq_eqF, wq_eqm, wq_meq, wq_add, wq_mul, wq_subT, eq_self, Bool.false_eq_true, ↓reduceIte, Option.bind_some, Sum.elim_inl, Sum.elim_inr, ↓wq_f0b, ↓wq_f1b, ↓wq_f2b, ↓wq_r0b, ↓wq_r1b, ↓Option.bind_some, d7, a2]
  have loop : ∀ l k M fl, (fl = 0 ∨ fl = 1) → k + l = z j → l < M → ∃ fl', (fl' = 0 ∨ fl' = 1) ∧ (fl' = 1 ↔ fl = 1 ∨ ∃ k', k ≤ k' ∧ k' < z j ∧ wz_lost r a t c values ritems (j * 8 + k')) ∧ xf_rf_isMissing_7 ritems lines numbers parts sorts values N M (Int32.ofNat (40 + j)) (Int32.ofNat fl) (Int32.ofNat (320 + (j * 8 + k))) = some (Int32.ofNat fl') := by
    intro l
    induction l with
    | zero =>
      intro k M fl hf hk hM
      obtain ⟨M', rfl⟩ : ∃ M', M = M' + 1 := ⟨M - 1, by omega⟩
      refine ⟨fl, hf, ⟨fun h => Or.inl h, ?_⟩, ?_⟩
      · rintro (h | ⟨k', h1, h2, _⟩)
        · exact h
        · omega
      · rcases hf with rfl | rfl
        · simp (disch := omega) only [↓xf_rf_isMissing_7_s, wq_ltT, wq_ltF, wq_inT, wq_clamp, wq_eqF, wq_eqm, wq_meq, wq_add, wq_mul, wq_subT, eq_self, Bool.false_eq_true, ↓reduceIte, Option.bind_some, Sum.elim_inl, Sum.elim_inr, ↓wq_f0b, ↓wq_f1b, ↓wq_f2b, ↓wq_r0b, ↓wq_r1b, ↓Option.bind_some, d7, ef0]
        · simp (disch := omega) only [↓xf_rf_isMissing_7_s, wq_ltT, wq_ltF, wq_inT, wq_clamp, wq_eqF, wq_eqm, wq_meq, wq_add, wq_mul, wq_subT, eq_self, Bool.false_eq_true, ↓reduceIte, Option.bind_some, Sum.elim_inl, Sum.elim_inr, ↓wq_f0b, ↓wq_f1b, ↓wq_f2b, ↓wq_r0b, ↓wq_r1b, ↓Option.bind_some, d7, ef1]
    | succ l ih =>
      intro k M fl hf hk hM
      obtain ⟨M', rfl⟩ : ∃ M', M = M' + 1 := ⟨M - 1, by omega⟩
      obtain ⟨f1, g1, g2, g3⟩ := arg k M' fl (by omega) hf
      obtain ⟨f2, h1, h2, h3⟩ := ih (k + 1) M' f1 g1 (by omega) (by omega)
      refine ⟨f2, h1, h2.trans ⟨?_, ?_⟩, g3.trans h3⟩
      · rintro (h | ⟨k', w1, w2, w3⟩)
        · rcases g2.mp h with h | h
          · exact Or.inl h
          · exact Or.inr ⟨k, Nat.le_refl _, by omega, h⟩
        · exact Or.inr ⟨k', by omega, w2, w3⟩
      · rintro (h | ⟨k', w1, w2, w3⟩)
        · exact Or.inl (g2.mpr (Or.inl h))
        · by_cases e : k' = k
          · rw [e] at w3
            exact Or.inl (g2.mpr (Or.inr w3))
          · exact Or.inr ⟨k', by omega, w2, w3⟩
  obtain ⟨fl', g1, g2, g3⟩ := loop (z j) 0 N 0 (Or.inl rfl) (by omega) (by omega)
  have e0 : xf_rf_isMissing ritems lines numbers parts sorts values N (Int32.ofNat (40 + j)) = some (Int32.ofNat fl') := by
    rw [← g3, xf_rf_isMissing_s, wq_mul, show 8 * (40 + j) = 320 + (j * 8 + 0) by omega]
  rw [e0]
  rcases g1 with rfl | rfl
  · refine Or.inr ⟨fun ⟨k, h1, h2⟩ => ?_, rfl⟩
    have := g2.mpr (Or.inr ⟨k, by omega, h1, h2⟩)
    omega
  · refine Or.inl ⟨?_, rfl⟩
    rcases g2.mp rfl with h | ⟨k', _, h1, h2⟩
    · omega
    · exact ⟨k', h1, h2⟩
/-- the first line in which one is missing -/
theorem wz_first (hO : wz_O r oo a number order) (hD : wz_D r u a z m t c s name size sort value start items numbers letters names parts sorts values ritems) (hl : lines 1 = Int32.ofNat r) (hu : u ≤ 1200) {N : Nat} (hN : 1300 ≤ N) (text : Nat → Int32) (at_ fr sz th : Int32) :
    (∃ j, j < r ∧ xf_md_firstLost items (Int32.ofNat r) number order (Int32.ofNat r) size sort start (Int32.ofNat u) value N = some (Int32.ofNat (a j)) ∧ xf_rf_read_62 text N N at_ (-1) fr ritems letters lines names numbers parts sz sorts th values (Int32.ofNat 40) = some ((-10000 : Int32) - Int32.ofNat (a j), at_, -1, fr, ritems, letters, lines, names, numbers, parts, sz, sorts, th, values)) ∨
    ((∀ j k, j < r → k < z j → ¬ wz_lost r a t c values ritems (j * 8 + k)) ∧ xf_md_firstLost items (Int32.ofNat r) number order (Int32.ofNat r) size sort start (Int32.ofNat u) value N = some (-1) ∧ xf_rf_read_62 text N N at_ (-1) fr ritems letters lines names numbers parts sz sorts th values (Int32.ofNat 40) = xf_rf_read_115 text N N at_ (-1) fr ritems letters (upd lines 0 (lines 1)) names numbers parts sz sorts th values (Int32.ofNat 40)) := by
  have hr := hO.1
  rw [xf_md_firstLost_s]
  suffices H : ∀ l j M1 M2, j + l = r → l < M1 → l < M2 → (∀ j' k, j' < j → k < z j' → ¬ wz_lost r a t c values ritems (j' * 8 + k)) →
      (∃ j, j < r ∧ xf_md_firstLost_2 items (Int32.ofNat r) number order (Int32.ofNat r) size sort start (Int32.ofNat u) value N M1 (Int32.ofNat (r - l)) = some (Int32.ofNat (a j)) ∧ xf_rf_read_62 text N M2 at_ (-1) fr ritems letters lines names numbers parts sz sorts th values (Int32.ofNat (40 + (r - l))) = some ((-10000 : Int32) - Int32.ofNat (a j), at_, -1, fr, ritems, letters, lines, names, numbers, parts, sz, sorts, th, values)) ∨
      ((∀ j k, j < r → k < z j → ¬ wz_lost r a t c values ritems (j * 8 + k)) ∧ xf_md_firstLost_2 items (Int32.ofNat r) number order (Int32.ofNat r) size sort start (Int32.ofNat u) value N M1 (Int32.ofNat (r - l)) = some (-1) ∧ xf_rf_read_62 text N M2 at_ (-1) fr ritems letters lines names numbers parts sz sorts th values (Int32.ofNat (40 + (r - l))) = xf_rf_read_115 text N N at_ (-1) fr ritems letters (upd lines 0 (lines 1)) names numbers parts sz sorts th values (Int32.ofNat 40)) by
    have := H r 0 N N (by omega) (by omega) (by omega) (fun j' k hj' => absurd hj' (by omega))
    rw [Nat.sub_self] at this
    exact this
  intro l
  induction l with
  | zero =>
    intro j M1 M2 hj hM1 hM2 hno
    obtain ⟨M1, rfl⟩ : ∃ M, M1 = M + 1 := ⟨M1 - 1, by omega⟩
    obtain ⟨M2, rfl⟩ : ∃ M, M2 = M + 1 := ⟨M2 - 1, by omega⟩
    rw [Nat.sub_zero]
    refine Or.inr ⟨fun j' k hj' hk => hno j' k (by omega) hk, ?_, ?_⟩
    · simp (disch := omega) only [↓xf_md_firstLost_2_s, wq_ltT, wq_ltF, wq_inT, wq_clamp, wq_eqF, wq_eqm, wq_meq, wq_add, wq_mul, wq_subT, eq_self, Bool.false_eq_true, ↓reduceIte, Option.bind_some, Sum.elim_inl, Sum.elim_inr, ↓wq_f0b, ↓wq_f1b, ↓wq_f2b, ↓wq_r0b, ↓wq_r1b, ↓Option.bind_some]
    · rw [xf_rf_read_62_s]
      simp (disch := omega) only [wq_ltT, wq_ltF, wq_inT, wq_clamp, wq_eqF, wq_eqm, wq_meq, wq_add, wq_mul, wq_subT, eq_self, Bool.false_eq_true, ↓reduceIte, Option.bind_some, Sum.elim_inl, Sum.elim_inr, ↓wq_f0b, ↓wq_f1b, ↓wq_f2b, ↓wq_r0b, ↓wq_r1b, ↓Option.bind_some, hl]
  | succ l ih =>
    intro j M1 M2 hj hM1 hM2 hno
    obtain ⟨M1, rfl⟩ : ∃ M, M1 = M + 1 := ⟨M1 - 1, by omega⟩
    obtain ⟨M2, rfl⟩ : ∃ M, M2 = M + 1 := ⟨M2 - 1, by omega⟩
    have ej : r - (l + 1) = j := by omega
    rw [ej]
    have hjr : j < r := by omega
    obtain ⟨d1, d2, d3, d4, d5, d6, d7, d8, d9, d10, d11⟩ := hD.1 j hjr
    have nj := (hO.2.1 j hjr).1
    -- the class looks through the line
    have cl : ∀ x k Mx (k2 : Int32 → Option Int32), k + x = z j → x < Mx → ((∃ k', k ≤ k' ∧ k' < z j ∧ wz_lost r a t c values ritems (j * 8 + k')) ∧ xf_md_firstLost_12 items (Int32.ofNat r) number order (Int32.ofNat r) size sort start (Int32.ofNat u) value k2 N Mx (Int32.ofNat j) (Int32.ofNat k) = some (Int32.ofNat (a j))) ∨ ((¬ ∃ k', k ≤ k' ∧ k' < z j ∧ wz_lost r a t c values ritems (j * 8 + k')) ∧ xf_md_firstLost_12 items (Int32.ofNat r) number order (Int32.ofNat r) size sort start (Int32.ofNat u) value k2 N Mx (Int32.ofNat j) (Int32.ofNat k) = k2 (Int32.ofNat (j + 1))) := by
      intro x
      induction x with
      | zero =>
        intro k Mx k2 hk hM
        obtain ⟨M', rfl⟩ : ∃ M', Mx = M' + 1 := ⟨Mx - 1, by omega⟩
        refine Or.inr ⟨fun ⟨k', h1, h2, _⟩ => by omega, ?_⟩
        simp (disch := omega) only [↓xf_md_firstLost_12_s, wq_ltT, wq_ltF, wq_inT, wq_clamp, wq_eqF, wq_eqm, wq_meq, wq_add, wq_mul, wq_subT, eq_self, Bool.false_eq_true, ↓reduceIte, Option.bind_some, Sum.elim_inl, Sum.elim_inr, ↓wq_f0b, ↓wq_f1b, ↓wq_f2b, ↓wq_r0b, ↓wq_r1b, ↓Option.bind_some, d8]
      | succ x ihx =>
        intro k Mx k2 hk hM
        obtain ⟨M', rfl⟩ : ∃ M', Mx = M' + 1 := ⟨Mx - 1, by omega⟩
        rcases wz_isLost hO hD hl hu hN hjr (k := k) (by omega) with ⟨g1, g2⟩ | ⟨g1, g2⟩
        · refine Or.inl ⟨⟨k, Nat.le_refl _, by omega, g1⟩, ?_⟩
          simp (disch := omega) only [↓xf_md_firstLost_12_s, wq_ltT, wq_ltF, wq_inT, wq_clamp, wq_eqF, wq_eqm, wq_meq, wq_add, wq_mul, wq_subT, eq_self, Bool.false_eq_true, ↓reduceIte, Option.bind_some, Sum.elim_inl, Sum.elim_inr, ↓wq_f0b, ↓wq_f1b, ↓wq_f2b, ↓wq_r0b, ↓wq_r1b, ↓Option.bind_some, d8, ↓wq_b g2, nj]
        · have st : xf_md_firstLost_12 items (Int32.ofNat r) number order (Int32.ofNat r) size sort start (Int32.ofNat u) value k2 N (M' + 1) (Int32.ofNat j) (Int32.ofNat k) = xf_md_firstLost_12 items (Int32.ofNat r) number order (Int32.ofNat r) size sort start (Int32.ofNat u) value k2 N M' (Int32.ofNat j) (Int32.ofNat (k + 1)) := by
            rw [xf_md_firstLost_12_s]
            simp (disch := omega) only [wq_ltT, wq_ltF, wq_inT, wq_clamp, wq_eqF, wq_eqm, wq_meq, wq_add, wq_mul, wq_subT, eq_self, Bool.false_eq_true, ↓reduceIte, Option.bind_some, Sum.elim_inl, Sum.elim_inr, ↓wq_f0b, ↓wq_f1b, ↓wq_f2b, ↓wq_r0b, ↓wq_r1b, ↓Option.bind_some, d8, ↓wq_b g2]
          rw [st]
          rcases ihx (k + 1) M' k2 (by omega) (by omega) with ⟨⟨k', w1, w2, w3⟩, w4⟩ | ⟨w3, w4⟩
          · exact Or.inl ⟨⟨k', by omega, w2, w3⟩, w4⟩
          · refine Or.inr ⟨fun ⟨k', h1, h2, h3⟩ => w3 ⟨k', ?_, h2, h3⟩, w4⟩
            by_cases e : k' = k
            · rw [e] at h3
              exact absurd h3 g1
            · omega
    have c2 : xf_md_firstLost_2 items (Int32.ofNat r) number order (Int32.ofNat r) size sort start (Int32.ofNat u) value N (M1 + 1) (Int32.ofNat j) = xf_md_firstLost_12 items (Int32.ofNat r) number order (Int32.ofNat r) size sort start (Int32.ofNat u) value (xf_md_firstLost_2 items (Int32.ofNat r) number order (Int32.ofNat r) size sort start (Int32.ofNat u) value N M1) N N (Int32.ofNat j) (Int32.ofNat 0) := by
      rw [xf_md_firstLost_2_s]
      simp (disch := omega) only [wq_ltT, wq_ltF, wq_inT, wq_clamp, wq_eqF, wq_eqm, wq_meq, wq_add, wq_mul, wq_subT, eq_self, Bool.false_eq_true, ↓reduceIte, Option.bind_some, Sum.elim_inl, Sum.elim_inr, ↓wq_f0b, ↓wq_f1b, ↓wq_f2b, ↓wq_r0b, ↓wq_r1b, ↓Option.bind_some]
    rw [c2]
    rcases wz_isMissing hO hD hl hN hjr with ⟨⟨k0, e1, e2⟩, e3⟩ | ⟨e2, e3⟩
    · rcases cl (z j) 0 N (xf_md_firstLost_2 items (Int32.ofNat r) number order (Int32.ofNat r) size sort start (Int32.ofNat u) value N M1) (by omega) (by omega) with ⟨_, w4⟩ | ⟨w3, w4⟩
      · refine Or.inl ⟨j, hjr, w4, ?_⟩
        simp (disch := omega) only [↓xf_rf_read_62_s, wq_ltT, wq_ltF, wq_inT, wq_clamp, wq_eqF, wq_eqm, wq_meq, wq_add, wq_mul, wq_subT, eq_self, Bool.false_eq_true, ↓reduceIte, Option.bind_some, Sum.elim_inl, Sum.elim_inr, ↓wq_f0b, ↓wq_f1b, ↓wq_f2b, ↓wq_r0b, ↓wq_r1b, ↓Option.bind_some, hl, ↓wq_b e3, d1]
      · exact absurd ⟨k0, by omega, e1, e2⟩ w3
    · rcases cl (z j) 0 N (xf_md_firstLost_2 items (Int32.ofNat r) number order (Int32.ofNat r) size sort start (Int32.ofNat u) value N M1) (by omega) (by omega) with ⟨⟨k', w1, w2, w3⟩, w4⟩ | ⟨w3, w4⟩
      · exact absurd ⟨k', w2, w3⟩ e2
      · have rs : xf_rf_read_62 text N (M2 + 1) at_ (-1) fr ritems letters lines names numbers parts sz sorts th values (Int32.ofNat (40 + j)) = xf_rf_read_62 text N M2 at_ (-1) fr ritems letters lines names numbers parts sz sorts th values (Int32.ofNat (40 + (r - l))) := by
          rw [xf_rf_read_62_s]
          simp (disch := omega) only [wq_ltT, wq_ltF, wq_inT, wq_clamp, wq_eqF, wq_eqm, wq_meq, wq_add, wq_mul, wq_subT, eq_self, Bool.false_eq_true, ↓reduceIte, Option.bind_some, Sum.elim_inl, Sum.elim_inr, ↓wq_f0b, ↓wq_f1b, ↓wq_f2b, ↓wq_r0b, ↓wq_r1b, ↓Option.bind_some, hl, ↓wq_b e3]
          rw [show 40 + j + 1 = 40 + (r - l) by omega]
        rw [w4, rs, show j + 1 = r - l by omega]
        exact ih (j + 1) M1 M2 (by omega) (by omega) (by omega) (fun j' k hj' hk => by
          by_cases e : j' = j
          · subst e
            exact fun hh => e2 ⟨k, hk, hh⟩
          · exact hno j' k (by omega) hk)
end
