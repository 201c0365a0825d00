/-! WRITE: arguments and lines. -/
theorem wq_rng {k : Nat} (h : k ≤ 999999999) : ¬ Int32.ofNat k < -999999999 ∧ ¬ Int32.ofNat 999999999 < Int32.ofNat k := by
  constructor
  · intro hh
    have h1 := Int32.lt_iff_toInt_lt.mp hh
    have h2 : (-999999999 : Int32).toInt = -999999999 := by decide
    rw [wq_int (by omega), h2] at h1
    omega
  · intro hh
    rw [wq_lt (by omega) (by omega)] at hh
    omega
section
variable {n R u : Nat} {o a z m : Nat → Nat} {t c s : Nat → Nat → Nat} {rows lines used rl : Int32} {number : Nat → Int32} {name : Nat → Int64} {size order sort value start items names values ritems numbers letters parts sorts : Nat → Int32}
theorem wr_signs (hM : wi_M n R u o a z m t c s rows lines used number name size order sort value start items names values ritems) (hV : wi_V n a z m t c rl numbers letters names parts sorts values ritems) {N : Nat} {p k : Nat} (hp : p < n) (hk : k < z p) (h1 : t p k = 1) :
    ∀ l i M M', i + l = c p k → l < M → l < M' → wr_E (2 * l + 1) (fun full len signs => xf_wr_writeSigns_8 items sort start used value N M full len signs (Int32.ofNat (o p * 8 + k)) (Int32.ofNat 39) (Int32.ofNat i)) (fun out wr => xf_rf_putArgument_69 ritems sorts values N M' out wr (Int32.ofNat (8 * p + k)) (Int32.ofNat i)) := by
  have hn := hV.1.1
  have hz := (hV.2.2.2.2.1 p hp).2.2
  obtain ⟨w1, w2, w3, w4, w5, w6⟩ := hV.2.2.2.2.2 p k hp hk
  have hc := (w5 h1).1
  have it := wq_itemsOf hM hV hp hk
  intro l
  induction l with
  | zero =>
    intro i M M' hi hM1 hM2 W full len signs out wr hR hW
    obtain ⟨M1, rfl⟩ : ∃ M1, M = M1 + 1 := ⟨M - 1, by omega⟩
    obtain ⟨M2, rfl⟩ : ∃ M2, M' = M2 + 1 := ⟨M' - 1, by omega⟩
    obtain ⟨W', full', len', signs', out', wr', p1, p2, p3, p4⟩ := wr_put (k := 39) (by omega) (by omega) W full len signs out wr hR (by omega)
    have p3' : xf_pg_add full len signs (Int32.ofNat 39) = some ((), full', len', signs') := p3
    have p4' : xf_rf_put out wr (Int32.ofNat 39) = some ((), out', wr') := p4
    refine ⟨W', full', len', signs', out', wr', p1, by omega, ?_, ?_⟩
    · simp (disch := omega) only [↓xf_wr_writeSigns_8_s, wq_ltT, wq_ltF, wq_inT, wq_clamp, wq_eqF, wq_eqm, wq_meq, wq_add, wq_mul, wq_subT, eq_self, Bool.false_eq_true, ↓reduceIte, Option.bind_some, Sum.elim_inl, Sum.elim_inr, ↓wq_f0b, ↓wq_f1b, ↓wq_f2b, ↓wq_r0b, ↓wq_r1b, ↓Option.bind_some, ↓wq_b it, ↓wq_b p3']
    · simp (disch := omega) only [↓xf_rf_putArgument_69_s, ↓xf_rf_putArgument_269_s, wq_ltT, wq_ltF, wq_inT, wq_clamp, wq_eqF, wq_eqm, wq_meq, wq_add, wq_mul, wq_subT, eq_self, Bool.false_eq_true, ↓reduceIte, Option.bind_some, Sum.elim_inl, Sum.elim_inr, ↓wq_f0b, ↓wq_f1b, ↓wq_f2b, ↓wq_r0b, ↓wq_r1b, ↓Option.bind_some, hc, ↓wq_b p4']
  | succ l ih =>
    intro i M M' hi hM1 hM2 W full len signs out wr hR hW
    obtain ⟨M1, rfl⟩ : ∃ M1, M = M1 + 1 := ⟨M - 1, by omega⟩
    obtain ⟨M2, rfl⟩ : ∃ M2, M' = M2 + 1 := ⟨M' - 1, by omega⟩
    have ia := wq_itemAt hM hV hp hk (i := i) (by omega)
    obtain ⟨x, x1, x2, x3⟩ := (w5 h1).2 i (by omega)
    have x4 : ritems (20 * (8 * p + k) + i) = Int32.ofNat x := x3
    rw [x4] at ia
    obtain ⟨W', full', len', signs', out', wr', p1, p2, p3, p4⟩ := wr_put (k := x) (by omega) (by omega) W full len signs out wr hR (by omega)
    have p3' : xf_pg_add full len signs (Int32.ofNat x) = some ((), full', len', signs') := p3
    have p4' : xf_rf_put out wr (Int32.ofNat x) = some ((), out', wr') := p4
    by_cases h39 : x = 39
    · obtain ⟨W1, full1, len1, signs1, out1, wr1, r1, r2, r3, r4⟩ := wr_put (k := x) (by omega) (by omega) W' full' len' signs' out' wr' p1 (by omega)
      have r3' : xf_pg_add full' len' signs' (Int32.ofNat x) = some ((), full1, len1, signs1) := r3
      have r4' : xf_rf_put out' wr' (Int32.ofNat x) = some ((), out1, wr1) := r4
      obtain ⟨W2, full2, len2, signs2, out2, wr2, q1, q2, q3, q4⟩ := ih (i + 1) M1 M2 (by omega) (by omega) (by omega) W1 full1 len1 signs1 out1 wr1 r1 (by omega)
      refine ⟨W2, full2, len2, signs2, out2, wr2, q1, by omega, ?_, ?_⟩
      · rw [← q3]
        show xf_wr_writeSigns_8 items sort start used value N (M1 + 1) full len signs (Int32.ofNat (o p * 8 + k)) (Int32.ofNat 39) (Int32.ofNat i) = _
        rw [xf_wr_writeSigns_8_s]
        rw [h39] at ia p3' r3'
        simp (disch := omega) only [↓xf_wr_writeSigns_46_s, wq_ltT, wq_ltF, wq_inT, wq_clamp, wq_eqF, wq_eqm, wq_meq, wq_add, wq_mul, wq_subT, eq_self, Bool.false_eq_true, ↓reduceIte, Option.bind_some, Sum.elim_inl, Sum.elim_inr, ↓wq_f0b, ↓wq_f1b, ↓wq_f2b, ↓wq_r0b, ↓wq_r1b, ↓Option.bind_some, ↓wq_b it, ↓wq_b ia, wq_i2c, ↓wq_b p3', ↓wq_b r3']
      · rw [← q4]
        show xf_rf_putArgument_69 ritems sorts values N (M2 + 1) out wr (Int32.ofNat (8 * p + k)) (Int32.ofNat i) = _
        rw [xf_rf_putArgument_69_s]
        rw [h39] at x4 p4' r4'
        simp (disch := omega) only [↓xf_rf_putArgument_107_s, wq_ltT, wq_ltF, wq_inT, wq_clamp, wq_eqF, wq_eqm, wq_meq, wq_add, wq_mul, wq_subT, eq_self, Bool.false_eq_true, ↓reduceIte, Option.bind_some, Sum.elim_inl, Sum.elim_inr, ↓wq_f0b, ↓wq_f1b, ↓wq_f2b, ↓wq_r0b, ↓wq_r1b, ↓Option.bind_some, hc, x4, ↓wq_b p4', ↓wq_b r4']
    · obtain ⟨W2, full2, len2, signs2, out2, wr2, q1, q2, q3, q4⟩ := ih (i + 1) M1 M2 (by omega) (by omega) (by omega) W' full' len' signs' out' wr' p1 (by omega)
      refine ⟨W2, full2, len2, signs2, out2, wr2, q1, by omega, ?_, ?_⟩
      · rw [← q3]
        show xf_wr_writeSigns_8 items sort start used value N (M1 + 1) full len signs (Int32.ofNat (o p * 8 + k)) (Int32.ofNat 39) (Int32.ofNat i) = _
        rw [xf_wr_writeSigns_8_s]
        simp (disch := omega) only [↓xf_wr_writeSigns_46_s, wq_ltT, wq_ltF, wq_inT, wq_clamp, wq_eqF, wq_eqm, wq_meq, wq_add, wq_mul, wq_subT, eq_self, Bool.false_eq_true, ↓reduceIte, Option.bind_some, Sum.elim_inl, Sum.elim_inr, ↓wq_f0b, ↓wq_f1b, ↓wq_f2b, ↓wq_r0b, ↓wq_r1b, ↓Option.bind_some, ↓wq_b it, ↓wq_b ia, wq_i2c, ↓wq_b p3']
      · rw [← q4]
        show xf_rf_putArgument_69 ritems sorts values N (M2 + 1) out wr (Int32.ofNat (8 * p + k)) (Int32.ofNat i) = _
        rw [xf_rf_putArgument_69_s]
        simp (disch := omega) only [↓xf_rf_putArgument_107_s, wq_ltT, wq_ltF, wq_inT, wq_clamp, wq_eqF, wq_eqm, wq_meq, wq_add, wq_mul, wq_subT, eq_self, Bool.false_eq_true, ↓reduceIte, Option.bind_some, Sum.elim_inl, Sum.elim_inr, ↓wq_f0b, ↓wq_f1b, ↓wq_f2b, ↓wq_r0b, ↓wq_r1b, ↓Option.bind_some, hc, x4, ↓wq_b p4']
theorem wr_word (hM : wi_M n R u o a z m t c s rows lines used number name size order sort value start items names values ritems) (hV : wi_V n a z m t c rl numbers letters names parts sorts values ritems) {N : Nat} {p k : Nat} (hp : p < n) (hk : k < z p) (h5 : t p k = 5) :
    ∀ l i M M', i + l = c p k → l < M → l < M' → wr_E (l + 1) (fun full len signs => xf_wr_writeSigns_8 items sort start used value N M full len signs (Int32.ofNat (o p * 8 + k)) (Int32.ofNat 46) (Int32.ofNat i)) (fun out wr => xf_rf_putArgument_149 ritems sorts values N M' out wr (Int32.ofNat (8 * p + k)) (Int32.ofNat i)) := by
  have hn := hV.1.1
  have hz := (hV.2.2.2.2.1 p hp).2.2
  obtain ⟨w1, w2, w3, w4, w5, w6, w7, w8, w9, _⟩ := hV.2.2.2.2.2 p k hp hk
  have hc := (w9 h5).1
  have it := wq_itemsOf hM hV hp hk
  intro l
  induction l with
  | zero =>
    intro i M M' hi hM1 hM2 W full len signs out wr hR hW
    obtain ⟨M1, rfl⟩ : ∃ M1, M = M1 + 1 := ⟨M - 1, by omega⟩
    obtain ⟨M2, rfl⟩ : ∃ M2, M' = M2 + 1 := ⟨M' - 1, by omega⟩
    obtain ⟨W', full', len', signs', out', wr', p1, p2, p3, p4⟩ := wr_put (k := 46) (by omega) (by omega) W full len signs out wr hR (by omega)
    have p3' : xf_pg_add full len signs (Int32.ofNat 46) = some ((), full', len', signs') := p3
    have p4' : xf_rf_put out wr (Int32.ofNat 46) = some ((), out', wr') := p4
    refine ⟨W', full', len', signs', out', wr', p1, by omega, ?_, ?_⟩
    · simp (disch := omega) only [↓xf_wr_writeSigns_8_s, wq_ltT, wq_ltF, wq_inT, wq_clamp, wq_eqF, wq_eqm, wq_meq, wq_add, wq_mul, wq_subT, eq_self, Bool.false_eq_true, ↓reduceIte, Option.bind_some, Sum.elim_inl, Sum.elim_inr, ↓wq_f0b, ↓wq_f1b, ↓wq_f2b, ↓wq_r0b, ↓wq_r1b, ↓Option.bind_some, ↓wq_b it, ↓wq_b p3']
    · simp (disch := omega) only [↓xf_rf_putArgument_149_s, ↓xf_rf_putArgument_269_s, wq_ltT, wq_ltF, wq_inT, wq_clamp, wq_eqF, wq_eqm, wq_meq, wq_add, wq_mul, wq_subT, eq_self, Bool.false_eq_true, ↓reduceIte, Option.bind_some, Sum.elim_inl, Sum.elim_inr, ↓wq_f0b, ↓wq_f1b, ↓wq_f2b, ↓wq_r0b, ↓wq_r1b, ↓Option.bind_some, hc, ↓wq_b p4']
  | succ l ih =>
    intro i M M' hi hM1 hM2 W full len signs out wr hR hW
    obtain ⟨M1, rfl⟩ : ∃ M1, M = M1 + 1 := ⟨M - 1, by omega⟩
    obtain ⟨M2, rfl⟩ : ∃ M2, M' = M2 + 1 := ⟨M' - 1, by omega⟩
    have ia := wq_itemAt hM hV hp hk (i := i) (by omega)
    obtain ⟨x, x1, x2, x3⟩ := (w9 h5).2.2 i (by omega)
    have x4 : ritems (20 * (8 * p + k) + i) = Int32.ofNat x := x3
    rw [x4] at ia
    obtain ⟨W', full', len', signs', out', wr', p1, p2, p3, p4⟩ := wr_put (k := x) (by omega) (by omega) W full len signs out wr hR (by omega)
    have p3' : xf_pg_add full len signs (Int32.ofNat x) = some ((), full', len', signs') := p3
    have p4' : xf_rf_put out wr (Int32.ofNat x) = some ((), out', wr') := p4
    obtain ⟨W2, full2, len2, signs2, out2, wr2, q1, q2, q3, q4⟩ := ih (i + 1) M1 M2 (by omega) (by omega) (by omega) W' full' len' signs' out' wr' p1 (by omega)
    refine ⟨W2, full2, len2, signs2, out2, wr2, q1, by omega, ?_, ?_⟩
    · rw [← q3]
      show xf_wr_writeSigns_8 items sort start used value N (M1 + 1) full len signs (Int32.ofNat (o p * 8 + k)) (Int32.ofNat 46) (Int32.ofNat i) = _
      rw [xf_wr_writeSigns_8_s]
      simp (disch := omega) only [↓xf_wr_writeSigns_46_s, wq_ltT, wq_ltF, wq_inT, wq_clamp, wq_eqF, wq_eqm, wq_meq, wq_add, wq_mul, wq_subT, eq_self, Bool.false_eq_true, ↓reduceIte, Option.bind_some, Sum.elim_inl, Sum.elim_inr, ↓wq_f0b, ↓wq_f1b, ↓wq_f2b, ↓wq_r0b, ↓wq_r1b, ↓Option.bind_some, ↓wq_b it, ↓wq_b ia, wq_i2c, ↓wq_b p3']
    · rw [← q4]
      show xf_rf_putArgument_149 ritems sorts values N (M2 + 1) out wr (Int32.ofNat (8 * p + k)) (Int32.ofNat i) = _
      rw [xf_rf_putArgument_149_s]
      simp (disch := omega) only [wq_ltT, wq_ltF, wq_inT, wq_clamp, wq_eqF, wq_eqm, wq_meq, wq_add, wq_mul, wq_subT, eq_self, Bool.false_eq_true, ↓reduceIte, Option.bind_some, Sum.elim_inl, Sum.elim_inr, ↓wq_f0b, ↓wq_f1b, ↓wq_f2b, ↓wq_r0b, ↓wq_r1b, ↓Option.bind_some, hc, x4, ↓wq_b p4']
theorem wr_list (hM : wi_M n R u o a z m t c s rows lines used number name size order sort value start items names values ritems) (hV : wi_V n a z m t c rl numbers letters names parts sorts values ritems) {N : Nat} (hN : 41 ≤ N) {p k : Nat} (hp : p < n) (hk : k < z p) (h34 : t p k = 3 ∨ t p k = 4) :
    ∀ l i M M', i + l = c p k → l < M → l < M' → wr_E (12 * l + 1) (fun full len signs => xf_wr_writeList_8 items sort start used value N M full len signs (Int32.ofNat (o p * 8 + k)) (Int32.ofNat i)) (fun out wr => xf_rf_putArgument_206 ritems sorts values N M' out wr (Int32.ofNat (8 * p + k)) (Int32.ofNat i)) := by
  have hn := hV.1.1
  have hz := (hV.2.2.2.2.1 p hp).2.2
  obtain ⟨⟨g1, g2, g3, _⟩, g4, _, g5, _⟩ := id hM
  obtain ⟨f1, _⟩ := g4 p hp
  obtain ⟨f2, f3, _⟩ := g5 p k hp hk
  obtain ⟨w1, w2, w3, w4, w5, w6, w7, w8, w9, _⟩ := hV.2.2.2.2.2 p k hp hk
  have hc : values (8 * p + k) = Int32.ofNat (c p k) := by
    rcases h34 with e | e
    · exact (w7 e).1
    · exact (w8 e).1
  have rng : ∀ i, i < c p k → ¬ ritems (20 * (8 * p + k) + i) < -999999999 ∧ ¬ Int32.ofNat 999999999 < ritems (20 * (8 * p + k) + i) := by
    intro i hi
    rcases h34 with e | e
    · exact (w7 e).2.2 i hi
    · obtain ⟨q, q1, q2⟩ := (w8 e).2.2 i hi
      have q3 : ritems (20 * (8 * p + k) + i) = Int32.ofNat (a q) := q2
      have q4 := (hV.2.1 q q1).2
      rw [q3]
      exact wq_rng (by omega)
  have it := wq_itemsOf hM hV hp hk
  intro l
  induction l with
  | zero =>
    intro i M M' hi hM1 hM2 W full len signs out wr hR hW
    obtain ⟨M1, rfl⟩ : ∃ M1, M = M1 + 1 := ⟨M - 1, by omega⟩
    obtain ⟨M2, rfl⟩ : ∃ M2, M' = M2 + 1 := ⟨M' - 1, by omega⟩
    obtain ⟨W', full', len', signs', out', wr', p1, p2, p3, p4⟩ := wr_put (k := 41) (by omega) (by omega) W full len signs out wr hR (by omega)
    have p3' : xf_pg_add full len signs (Int32.ofNat 41) = some ((), full', len', signs') := p3
    have p4' : xf_rf_put out wr (Int32.ofNat 41) = some ((), out', wr') := p4
    refine ⟨W', full', len', signs', out', wr', p1, by omega, ?_, ?_⟩
    · simp (disch := omega) only [↓xf_wr_writeList_8_s, wq_ltT, wq_ltF, wq_inT, wq_clamp, wq_eqF, wq_eqm, wq_meq, wq_add, wq_mul, wq_subT, eq_self, Bool.false_eq_true, ↓reduceIte, Option.bind_some, Sum.elim_inl, Sum.elim_inr, ↓wq_f0b, ↓wq_f1b, ↓wq_f2b, ↓wq_r0b, ↓wq_r1b, ↓Option.bind_some, ↓wq_b it, ↓wq_b p3']
    · simp (disch := omega) only [↓xf_rf_putArgument_206_s, ↓xf_rf_putArgument_269_s, wq_ltT, wq_ltF, wq_inT, wq_clamp, wq_eqF, wq_eqm, wq_meq, wq_add, wq_mul, wq_subT, eq_self, Bool.false_eq_true, ↓reduceIte, Option.bind_some, Sum.elim_inl, Sum.elim_inr, ↓wq_f0b, ↓wq_f1b, ↓wq_f2b, ↓wq_r0b, ↓wq_r1b, ↓Option.bind_some, hc, ↓wq_b p4']
  | succ l ih =>
    intro i M M' hi hM1 hM2 W full len signs out wr hR hW
    obtain ⟨M1, rfl⟩ : ∃ M1, M = M1 + 1 := ⟨M - 1, by omega⟩
    obtain ⟨M2, rfl⟩ : ∃ M2, M' = M2 + 1 := ⟨M' - 1, by omega⟩
    have ia := wq_itemAt hM hV hp hk (i := i) (by omega)
    obtain ⟨rn1, rn2⟩ := rng i (by omega)
    -- the comma
    have comma : ∃ (W' : Nat) (full' len' : Int32) (signs' out' : Nat → Int32) (wr' : Int32), wr_R W' full' len' signs' out' wr' ∧ W' ≤ W + 1 ∧ xf_wr_writeList_8 items sort start used value N (M1 + 1) full len signs (Int32.ofNat (o p * 8 + k)) (Int32.ofNat i) = xf_wr_writeList_27 items sort start used value (xf_wr_writeList_8 items sort start used value N M1) N full' len' signs' (Int32.ofNat (o p * 8 + k)) (Int32.ofNat i) ∧ xf_rf_putArgument_206 ritems sorts values N (M2 + 1) out wr (Int32.ofNat (8 * p + k)) (Int32.ofNat i) = xf_rf_putArgument_226 ritems sorts values (xf_rf_putArgument_206 ritems sorts values N M2) N out' wr' (Int32.ofNat (8 * p + k)) (Int32.ofNat i) := by
      rw [xf_wr_writeList_8_s, xf_rf_putArgument_206_s]
      by_cases i0 : i = 0
      · subst i0
        refine ⟨W, full, len, signs, out, wr, hR, by omega, ?_, ?_⟩
        · simp (disch := omega) only [wq_ltT, wq_ltF, wq_inT, wq_clamp, wq_eqF, wq_eqm, wq_meq, wq_add, wq_mul, wq_subT, eq_self, Bool.false_eq_true, ↓reduceIte, Option.bind_some, Sum.elim_inl, Sum.elim_inr, ↓wq_f0b, ↓wq_f1b, ↓wq_f2b, ↓wq_r0b, ↓wq_r1b, ↓Option.bind_some, ↓wq_b it]
        · simp (disch := omega) only [wq_ltT, wq_ltF, wq_inT, wq_clamp, wq_eqF, wq_eqm, wq_meq, wq_add, wq_mul, wq_subT, eq_self, Bool.false_eq_true, ↓reduceIte, Option.bind_some, Sum.elim_inl, Sum.elim_inr, ↓wq_f0b, ↓wq_f1b, ↓wq_f2b, ↓wq_r0b, ↓wq_r1b, ↓Option.bind_some, hc]
      · obtain ⟨W', full', len', signs', out', wr', p1, p2, p3, p4⟩ := wr_put (k := 44) (by omega) (by omega) W full len signs out wr hR (by omega)
        have p3' : xf_pg_add full len signs (Int32.ofNat 44) = some ((), full', len', signs') := p3
        have p4' : xf_rf_put out wr (Int32.ofNat 44) = some ((), out', wr') := p4
        refine ⟨W', full', len', signs', out', wr', p1, by omega, ?_, ?_⟩
        · simp (disch := omega) only [wq_ltT, wq_ltF, wq_inT, wq_clamp, wq_eqF, wq_eqm, wq_meq, wq_add, wq_mul, wq_subT, eq_self, Bool.false_eq_true, ↓reduceIte, Option.bind_some, Sum.elim_inl, Sum.elim_inr, ↓wq_f0b, ↓wq_f1b, ↓wq_f2b, ↓wq_r0b, ↓wq_r1b, ↓Option.bind_some, ↓wq_b it, ↓wq_b p3']
        · simp (disch := omega) only [wq_ltT, wq_ltF, wq_inT, wq_clamp, wq_eqF, wq_eqm, wq_meq, wq_add, wq_mul, wq_subT, eq_self, Bool.false_eq_true, ↓reduceIte, Option.bind_some, Sum.elim_inl, Sum.elim_inr, ↓wq_f0b, ↓wq_f1b, ↓wq_f2b, ↓wq_r0b, ↓wq_r1b, ↓Option.bind_some, hc, ↓wq_b p4']
    obtain ⟨W', full', len', signs', out', wr', p1, p2, p3, p4⟩ := comma
    -- the sign of a reference
    have hash : ∃ (W1 : Nat) (full1 len1 : Int32) (signs1 out1 : Nat → Int32) (wr1 : Int32), wr_R W1 full1 len1 signs1 out1 wr1 ∧ W1 ≤ W' + 1 ∧ xf_wr_writeList_27 items sort start used value (xf_wr_writeList_8 items sort start used value N M1) N full' len' signs' (Int32.ofNat (o p * 8 + k)) (Int32.ofNat i) = xf_wr_writeList_43 items sort start used value (xf_wr_writeList_8 items sort start used value N M1) N full1 len1 signs1 (Int32.ofNat (o p * 8 + k)) (Int32.ofNat i) ∧ xf_rf_putArgument_226 ritems sorts values (xf_rf_putArgument_206 ritems sorts values N M2) N out' wr' (Int32.ofNat (8 * p + k)) (Int32.ofNat i) = xf_rf_putArgument_242 ritems sorts values (xf_rf_putArgument_206 ritems sorts values N M2) N out1 wr1 (Int32.ofNat (8 * p + k)) (Int32.ofNat i) := by
      rw [xf_wr_writeList_27_s, xf_rf_putArgument_226_s]
      rcases h34 with e | e
      · refine ⟨W', full', len', signs', out', wr', p1, by omega, ?_, ?_⟩
        · simp (disch := omega) only [wq_ltT, wq_ltF, wq_inT, wq_clamp, wq_eqF, wq_eqm, wq_meq, wq_add, wq_mul, wq_subT, eq_self, Bool.false_eq_true, ↓reduceIte, Option.bind_some, Sum.elim_inl, Sum.elim_inr, ↓wq_f0b, ↓wq_f1b, ↓wq_f2b, ↓wq_r0b, ↓wq_r1b, ↓Option.bind_some, f2, e]
        · simp (disch := omega) only [wq_ltT, wq_ltF, wq_inT, wq_clamp, wq_eqF, wq_eqm, wq_meq, wq_add, wq_mul, wq_subT, eq_self, Bool.false_eq_true, ↓reduceIte, Option.bind_some, Sum.elim_inl, Sum.elim_inr, ↓wq_f0b, ↓wq_f1b, ↓wq_f2b, ↓wq_r0b, ↓wq_r1b, ↓Option.bind_some, w1, e]
      · obtain ⟨W1, full1, len1, signs1, out1, wr1, r1, r2, r3, r4⟩ := wr_put (k := 35) (by omega) (by omega) W' full' len' signs' out' wr' p1 (by omega)
        have r3' : xf_pg_add full' len' signs' (Int32.ofNat 35) = some ((), full1, len1, signs1) := r3
        have r4' : xf_rf_put out' wr' (Int32.ofNat 35) = some ((), out1, wr1) := r4
        refine ⟨W1, full1, len1, signs1, out1, wr1, r1, by omega, ?_, ?_⟩
        · simp (disch := omega) only [wq_ltT, wq_ltF, wq_inT, wq_clamp, wq_eqF, wq_eqm, wq_meq, wq_add, wq_mul, wq_subT, eq_self, Bool.false_eq_true, ↓reduceIte, Option.bind_some, Sum.elim_inl, Sum.elim_inr, ↓wq_f0b, ↓wq_f1b, ↓wq_f2b, ↓wq_r0b, ↓wq_r1b, ↓Option.bind_some, f2, e, ↓wq_b r3']
        · simp (disch := omega) only [wq_ltT, wq_ltF, wq_inT, wq_clamp, wq_eqF, wq_eqm, wq_meq, wq_add, wq_mul, wq_subT, eq_self, Bool.false_eq_true, ↓reduceIte, Option.bind_some, Sum.elim_inl, Sum.elim_inr, ↓wq_f0b, ↓wq_f1b, ↓wq_f2b, ↓wq_r0b, ↓wq_r1b, ↓Option.bind_some, w1, e, ↓wq_b r4']
    obtain ⟨W1, full1, len1, signs1, out1, wr1, r1, r2, r3, r4⟩ := hash
    obtain ⟨W3, full3, len3, signs3, out3, wr3, s1, s2, s3, s4⟩ := wr_num N N hN hN rn1 rn2 W1 full1 len1 signs1 out1 wr1 r1 (by omega)
    have s3' : xf_wr_writeNumber N full1 len1 signs1 (ritems (20 * (8 * p + k) + i)) = some ((), full3, len3, signs3) := s3
    have s4' : xf_rf_putNumber N out1 wr1 (ritems (20 * (8 * p + k) + i)) = some ((), out3, wr3) := s4
    obtain ⟨W2, full2, len2, signs2, out2, wr2, q1, q2, q3, q4⟩ := ih (i + 1) M1 M2 (by omega) (by omega) (by omega) W3 full3 len3 signs3 out3 wr3 s1 (by omega)
    refine ⟨W2, full2, len2, signs2, out2, wr2, q1, by omega, ?_, ?_⟩
    · rw [← q3]
      show xf_wr_writeList_8 items sort start used value N (M1 + 1) full len signs (Int32.ofNat (o p * 8 + k)) (Int32.ofNat i) = _
      rw [p3, r3]
      simp (disch := omega) only [↓xf_wr_writeList_43_s, wq_ltT, wq_ltF, wq_inT, wq_clamp, wq_eqF, wq_eqm, wq_meq, wq_add, wq_mul, wq_subT, eq_self, Bool.false_eq_true, ↓reduceIte, Option.bind_some, Sum.elim_inl, Sum.elim_inr, ↓wq_f0b, ↓wq_f1b, ↓wq_f2b, ↓wq_r0b, ↓wq_r1b, ↓Option.bind_some, ↓wq_b ia, ↓wq_b s3']
    · rw [← q4]
      show xf_rf_putArgument_206 ritems sorts values N (M2 + 1) out wr (Int32.ofNat (8 * p + k)) (Int32.ofNat i) = _
      rw [p4, r4]
      simp (disch := omega) only [↓xf_rf_putArgument_242_s, wq_ltT, wq_ltF, wq_inT, wq_clamp, wq_eqF, wq_eqm, wq_meq, wq_add, wq_mul, wq_subT, eq_self, Bool.false_eq_true, ↓reduceIte, Option.bind_some, Sum.elim_inl, Sum.elim_inr, ↓wq_f0b, ↓wq_f1b, ↓wq_f2b, ↓wq_r0b, ↓wq_r1b, ↓Option.bind_some, ↓wq_b s4']
theorem wr_arg (hM : wi_M n R u o a z m t c s rows lines used number name size order sort value start items names values ritems) (hV : wi_V n a z m t c rl numbers letters names parts sorts values ritems) {N : Nat} (hN : 41 ≤ N) {p k : Nat} (hp : p < n) (hk : k < z p) :
    wr_E 80 (fun full len signs => xf_wr_writeArgument items sort start used value N full len signs (Int32.ofNat (o p * 8 + k))) (fun out wr => xf_rf_putArgument ritems sorts values N out wr (Int32.ofNat (8 * p + k))) := by
  intro W full len signs out wr hR hW
  have hn := hV.1.1
  have hz := (hV.2.2.2.2.1 p hp).2.2
  obtain ⟨⟨g1, g2, g3, _⟩, g4, _, g5, _⟩ := id hM
  obtain ⟨f1, _⟩ := g4 p hp
  obtain ⟨f2, f3, _⟩ := g5 p k hp hk
  obtain ⟨w1, w2, w3, w4, w5, w6, w7, w8, w9, w10⟩ := hV.2.2.2.2.2 p k hp hk
  have ht : t p k = 0 ∨ t p k = 1 ∨ t p k = 2 ∨ t p k = 3 ∨ t p k = 4 ∨ t p k = 5 ∨ t p k = 6 := by omega
  rcases ht with e | e | e | e | e | e | e
  · obtain ⟨_, y1, y2⟩ := w4 e
    obtain ⟨W3, full3, len3, signs3, out3, wr3, s1, s2, s3, s4⟩ := wr_num N N hN hN y1 y2 W full len signs out wr hR (by omega)
    have s3' : xf_wr_writeNumber N full len signs (values (8 * p + k)) = some ((), full3, len3, signs3) := s3
    have s4' : xf_rf_putNumber N out wr (values (8 * p + k)) = some ((), out3, wr3) := s4
    refine ⟨W3, full3, len3, signs3, out3, wr3, s1, by omega, ?_, ?_⟩
    · simp (disch := omega) only [↓xf_wr_writeArgument_s, ↓xf_wr_writeArgument_117_s, wq_ltT, wq_ltF, wq_inT, wq_clamp, wq_eqF, wq_eqm, wq_meq, wq_add, wq_mul, wq_subT, eq_self, Bool.false_eq_true, ↓reduceIte, Option.bind_some, Sum.elim_inl, Sum.elim_inr, ↓wq_f0b, ↓wq_f1b, ↓wq_f2b, ↓wq_r0b, ↓wq_r1b, ↓Option.bind_some, f2, e, f3, ↓wq_b s3']
    · simp (disch := omega) only [↓xf_rf_putArgument_s, ↓xf_rf_putArgument_269_s, wq_ltT, wq_ltF, wq_inT, wq_clamp, wq_eqF, wq_eqm, wq_meq, wq_add, wq_mul, wq_subT, eq_self, Bool.false_eq_true, ↓reduceIte, Option.bind_some, Sum.elim_inl, Sum.elim_inr, ↓wq_f0b, ↓wq_f1b, ↓wq_f2b, ↓wq_r0b, ↓wq_r1b, ↓Option.bind_some, w1, e, ↓wq_b s4']
  · obtain ⟨W', full', len', signs', out', wr', p1, p2, p3, p4⟩ := wr_put (k := 39) (by omega) (by omega) W full len signs out wr hR (by omega)
    have p3' : xf_pg_add full len signs (Int32.ofNat 39) = some ((), full', len', signs') := p3
    have p4' : xf_rf_put out wr (Int32.ofNat 39) = some ((), out', wr') := p4
    obtain ⟨W3, full3, len3, signs3, out3, wr3, s1, s2, s3, s4⟩ := wr_signs hM hV (N := N) hp hk e (c p k) 0 N N (by omega) (by omega) (by omega) W' full' len' signs' out' wr' p1 (by omega)
    have s3' : xf_wr_writeSigns_8 items sort start used value N N full' len' signs' (Int32.ofNat (o p * 8 + k)) (Int32.ofNat 39) (Int32.ofNat 0) = some ((), full3, len3, signs3) := s3
    have s4' : xf_rf_putArgument_69 ritems sorts values N N out' wr' (Int32.ofNat (8 * p + k)) (Int32.ofNat 0) = some ((), out3, wr3) := s4
    have s5 : xf_wr_writeSigns items sort start used value N full len signs (Int32.ofNat (o p * 8 + k)) (Int32.ofNat 39) = some ((), full3, len3, signs3) := by
      simp (disch := omega) only [↓xf_wr_writeSigns_s, wq_ltT, wq_ltF, wq_inT, wq_clamp, wq_eqF, wq_eqm, wq_meq, wq_add, wq_mul, wq_subT, eq_self, Bool.false_eq_true, ↓reduceIte, Option.bind_some, Sum.elim_inl, Sum.elim_inr, ↓wq_f0b, ↓wq_f1b, ↓wq_f2b, ↓wq_r0b, ↓wq_r1b, ↓Option.bind_some, ↓wq_b p3', s3']
    refine ⟨W3, full3, len3, signs3, out3, wr3, s1, by omega, ?_, ?_⟩
    · simp (disch := omega) only [↓xf_wr_writeArgument_s, ↓xf_wr_writeArgument_117_s, wq_ltT, wq_ltF, wq_inT, wq_clamp, wq_eqF, wq_eqm, wq_meq, wq_add, wq_mul, wq_subT, eq_self, Bool.false_eq_true, ↓reduceIte, Option.bind_some, Sum.elim_inl, Sum.elim_inr, ↓wq_f0b, ↓wq_f1b, ↓wq_f2b, ↓wq_r0b, ↓wq_r1b, ↓Option.bind_some, f2, e, ↓wq_b s5]
    · simp (disch := omega) only [↓xf_rf_putArgument_s, wq_ltT, wq_ltF, wq_inT, wq_clamp, wq_eqF, wq_eqm, wq_meq, wq_add, wq_mul, wq_subT, eq_self, Bool.false_eq_true, ↓reduceIte, Option.bind_some, Sum.elim_inl, Sum.elim_inr, ↓wq_f0b, ↓wq_f1b, ↓wq_f2b, ↓wq_r0b, ↓wq_r1b, ↓Option.bind_some, w1, e, ↓wq_b p4', s4']
  · obtain ⟨W', full', len', signs', out', wr', p1, p2, p3, p4⟩ := wr_put (k := 35) (by omega) (by omega) W full len signs out wr hR (by omega)
    have p3' : xf_pg_add full len signs (Int32.ofNat 35) = some ((), full', len', signs') := p3
    have p4' : xf_rf_put out wr (Int32.ofNat 35) = some ((), out', wr') := p4
    obtain ⟨_, q, q1, q2⟩ := w6 e
    have q4 := (hV.2.1 q q1).2
    obtain ⟨y1, y2⟩ := wq_rng (k := a q) (by omega)
    rw [← q2] at y1 y2
    obtain ⟨W3, full3, len3, signs3, out3, wr3, s1, s2, s3, s4⟩ := wr_num N N hN hN y1 y2 W' full' len' signs' out' wr' p1 (by omega)
    have s3' : xf_wr_writeNumber N full' len' signs' (values (8 * p + k)) = some ((), full3, len3, signs3) := s3
    have s4' : xf_rf_putNumber N out' wr' (values (8 * p + k)) = some ((), out3, wr3) := s4
    refine ⟨W3, full3, len3, signs3, out3, wr3, s1, by omega, ?_, ?_⟩
    · simp (disch := omega) only [↓xf_wr_writeArgument_s, ↓xf_wr_writeArgument_117_s, wq_ltT, wq_ltF, wq_inT, wq_clamp, wq_eqF, wq_eqm, wq_meq, wq_add, wq_mul, wq_subT, eq_self, Bool.false_eq_true, ↓reduceIte, Option.bind_some, Sum.elim_inl, Sum.elim_inr, ↓wq_f0b, ↓wq_f1b, ↓wq_f2b, ↓wq_r0b, ↓wq_r1b, ↓Option.bind_some, f2, e, f3, ↓wq_b p3', ↓wq_b s3']
    · simp (disch := omega) only [↓xf_rf_putArgument_s, ↓xf_rf_putArgument_269_s, wq_ltT, wq_ltF, wq_inT, wq_clamp, wq_eqF, wq_eqm, wq_meq, wq_add, wq_mul, wq_subT, eq_self, Bool.false_eq_true, ↓reduceIte, Option.bind_some, Sum.elim_inl, Sum.elim_inr, ↓wq_f0b, ↓wq_f1b, ↓wq_f2b, ↓wq_r0b, ↓wq_r1b, ↓Option.bind_some, w1, e, ↓wq_b p4', ↓wq_b s4']
  · obtain ⟨W', full', len', signs', out', wr', p1, p2, p3, p4⟩ := wr_put (k := 40) (by omega) (by omega) W full len signs out wr hR (by omega)
    have p3' : xf_pg_add full len signs (Int32.ofNat 40) = some ((), full', len', signs') := p3
    have p4' : xf_rf_put out wr (Int32.ofNat 40) = some ((), out', wr') := p4
    have c6 := (w7 e).2.1
    obtain ⟨W3, full3, len3, signs3, out3, wr3, s1, s2, s3, s4⟩ := wr_list hM hV hN hp hk (Or.inl e) (c p k) 0 N N (by omega) (by omega) (by omega) W' full' len' signs' out' wr' p1 (by omega)
    have s3' : xf_wr_writeList_8 items sort start used value N N full' len' signs' (Int32.ofNat (o p * 8 + k)) (Int32.ofNat 0) = some ((), full3, len3, signs3) := s3
    have s4' : xf_rf_putArgument_206 ritems sorts values N N out' wr' (Int32.ofNat (8 * p + k)) (Int32.ofNat 0) = some ((), out3, wr3) := s4
    have s5 : xf_wr_writeList items sort start used value N full len signs (Int32.ofNat (o p * 8 + k)) = some ((), full3, len3, signs3) := by
      simp (disch := omega) only [↓xf_wr_writeList_s, wq_ltT, wq_ltF, wq_inT, wq_clamp, wq_eqF, wq_eqm, wq_meq, wq_add, wq_mul, wq_subT, eq_self, Bool.false_eq_true, ↓reduceIte, Option.bind_some, Sum.elim_inl, Sum.elim_inr, ↓wq_f0b, ↓wq_f1b, ↓wq_f2b, ↓wq_r0b, ↓wq_r1b, ↓Option.bind_some, ↓wq_b p3', s3']
    refine ⟨W3, full3, len3, signs3, out3, wr3, s1, by omega, ?_, ?_⟩
    · simp (disch := omega) only [↓xf_wr_writeArgument_s, ↓xf_wr_writeArgument_111_s, ↓xf_wr_writeArgument_117_s, wq_ltT, wq_ltF, wq_inT, wq_clamp, wq_eqF, wq_eqm, wq_meq, wq_add, wq_mul, wq_subT, eq_self, Bool.false_eq_true, ↓reduceIte, Option.bind_some, Sum.elim_inl, Sum.elim_inr, ↓wq_f0b, ↓wq_f1b, ↓wq_f2b, ↓wq_r0b, ↓wq_r1b, ↓Option.bind_some, f2, e, ↓wq_b s5]
    · simp (disch := omega) only [↓xf_rf_putArgument_s, ↓xf_rf_putArgument_198_s, wq_ltT, wq_ltF, wq_inT, wq_clamp, wq_eqF, wq_eqm, wq_meq, wq_add, wq_mul, wq_subT, eq_self, Bool.false_eq_true, ↓reduceIte, Option.bind_some, Sum.elim_inl, Sum.elim_inr, ↓wq_f0b, ↓wq_f1b, ↓wq_f2b, ↓wq_r0b, ↓wq_r1b, ↓Option.bind_some, w1, e, ↓wq_b p4', s4']
  · obtain ⟨W', full', len', signs', out', wr', p1, p2, p3, p4⟩ := wr_put (k := 40) (by omega) (by omega) W full len signs out wr hR (by omega)
    have p3' : xf_pg_add full len signs (Int32.ofNat 40) = some ((), full', len', signs') := p3
    have p4' : xf_rf_put out wr (Int32.ofNat 40) = some ((), out', wr') := p4
    have c6 := (w8 e).2.1
    obtain ⟨W3, full3, len3, signs3, out3, wr3, s1, s2, s3, s4⟩ := wr_list hM hV hN hp hk (Or.inr e) (c p k) 0 N N (by omega) (by omega) (by omega) W' full' len' signs' out' wr' p1 (by omega)
    have s3' : xf_wr_writeList_8 items sort start used value N N full' len' signs' (Int32.ofNat (o p * 8 + k)) (Int32.ofNat 0) = some ((), full3, len3, signs3) := s3
    have s4' : xf_rf_putArgument_206 ritems sorts values N N out' wr' (Int32.ofNat (8 * p + k)) (Int32.ofNat 0) = some ((), out3, wr3) := s4
    have s5 : xf_wr_writeList items sort start used value N full len signs (Int32.ofNat (o p * 8 + k)) = some ((), full3, len3, signs3) := by
      simp (disch := omega) only [↓xf_wr_writeList_s, wq_ltT, wq_ltF, wq_inT, wq_clamp, wq_eqF, wq_eqm, wq_meq, wq_add, wq_mul, wq_subT, eq_self, Bool.false_eq_true, ↓reduceIte, Option.bind_some, Sum.elim_inl, Sum.elim_inr, ↓wq_f0b, ↓wq_f1b, ↓wq_f2b, ↓wq_r0b, ↓wq_r1b, ↓Option.bind_some, ↓wq_b p3', s3']
    refine ⟨W3, full3, len3, signs3, out3, wr3, s1, by omega, ?_, ?_⟩
    · simp (disch := omega) only [↓xf_wr_writeArgument_s, ↓xf_wr_writeArgument_111_s, ↓xf_wr_writeArgument_117_s, wq_ltT, wq_ltF, wq_inT, wq_clamp, wq_eqF, wq_eqm, wq_meq, wq_add, wq_mul, wq_subT, eq_self, Bool.false_eq_true, ↓reduceIte, Option.bind_some, Sum.elim_inl, Sum.elim_inr, ↓wq_f0b, ↓wq_f1b, ↓wq_f2b, ↓wq_r0b, ↓wq_r1b, ↓Option.bind_some, f2, e, ↓wq_b s5]
    · simp (disch := omega) only [↓xf_rf_putArgument_s, ↓xf_rf_putArgument_198_s, wq_ltT, wq_ltF, wq_inT, wq_clamp, wq_eqF, wq_eqm, wq_meq, wq_add, wq_mul, wq_subT, eq_self, Bool.false_eq_true, ↓reduceIte, Option.bind_some, Sum.elim_inl, Sum.elim_inr, ↓wq_f0b, ↓wq_f1b, ↓wq_f2b, ↓wq_r0b, ↓wq_r1b, ↓Option.bind_some, w1, e, ↓wq_b p4', s4']
  · obtain ⟨W', full', len', signs', out', wr', p1, p2, p3, p4⟩ := wr_put (k := 46) (by omega) (by omega) W full len signs out wr hR (by omega)
    have p3' : xf_pg_add full len signs (Int32.ofNat 46) = some ((), full', len', signs') := p3
    have p4' : xf_rf_put out wr (Int32.ofNat 46) = some ((), out', wr') := p4
    obtain ⟨W3, full3, len3, signs3, out3, wr3, s1, s2, s3, s4⟩ := wr_word hM hV (N := N) hp hk e (c p k) 0 N N (by omega) (by omega) (by omega) W' full' len' signs' out' wr' p1 (by omega)
    have s3' : xf_wr_writeSigns_8 items sort start used value N N full' len' signs' (Int32.ofNat (o p * 8 + k)) (Int32.ofNat 46) (Int32.ofNat 0) = some ((), full3, len3, signs3) := s3
    have s4' : xf_rf_putArgument_149 ritems sorts values N N out' wr' (Int32.ofNat (8 * p + k)) (Int32.ofNat 0) = some ((), out3, wr3) := s4
    have s5 : xf_wr_writeSigns items sort start used value N full len signs (Int32.ofNat (o p * 8 + k)) (Int32.ofNat 46) = some ((), full3, len3, signs3) := by
      simp (disch := omega) only [↓xf_wr_writeSigns_s, wq_ltT, wq_ltF, wq_inT, wq_clamp, wq_eqF, wq_eqm, wq_meq, wq_add, wq_mul, wq_subT, eq_self, Bool.false_eq_true, ↓reduceIte, Option.bind_some, Sum.elim_inl, Sum.elim_inr, ↓wq_f0b, ↓wq_f1b, ↓wq_f2b, ↓wq_r0b, ↓wq_r1b, ↓Option.bind_some, ↓wq_b p3', s3']
    refine ⟨W3, full3, len3, signs3, out3, wr3, s1, by omega, ?_, ?_⟩
    · simp (disch := omega) only [↓xf_wr_writeArgument_s, ↓xf_wr_writeArgument_117_s, wq_ltT, wq_ltF, wq_inT, wq_clamp, wq_eqF, wq_eqm, wq_meq, wq_add, wq_mul, wq_subT, eq_self, Bool.false_eq_true, ↓reduceIte, Option.bind_some, Sum.elim_inl, Sum.elim_inr, ↓wq_f0b, ↓wq_f1b, ↓wq_f2b, ↓wq_r0b, ↓wq_r1b, ↓Option.bind_some, f2, e, ↓wq_b s5]
    · simp (disch := omega) only [↓xf_rf_putArgument_s, wq_ltT, wq_ltF, wq_inT, wq_clamp, wq_eqF, wq_eqm, wq_meq, wq_add, wq_mul, wq_subT, eq_self, Bool.false_eq_true, ↓reduceIte, Option.bind_some, Sum.elim_inl, Sum.elim_inr, ↓wq_f0b, ↓wq_f1b, ↓wq_f2b, ↓wq_r0b, ↓wq_r1b, ↓Option.bind_some, w1, e, ↓wq_b p4', s4']
  · obtain ⟨W', full', len', signs', out', wr', p1, p2, p3, p4⟩ := wr_put (k := 36) (by omega) (by omega) W full len signs out wr hR (by omega)
    have p3' : xf_pg_add full len signs (Int32.ofNat 36) = some ((), full', len', signs') := p3
    have p4' : xf_rf_put out wr (Int32.ofNat 36) = some ((), out', wr') := p4
    refine ⟨W', full', len', signs', out', wr', p1, by omega, ?_, ?_⟩
    · simp (disch := omega) only [↓xf_wr_writeArgument_s, ↓xf_wr_writeArgument_117_s, wq_ltT, wq_ltF, wq_inT, wq_clamp, wq_eqF, wq_eqm, wq_meq, wq_add, wq_mul, wq_subT, eq_self, Bool.false_eq_true, ↓reduceIte, Option.bind_some, Sum.elim_inl, Sum.elim_inr, ↓wq_f0b, ↓wq_f1b, ↓wq_f2b, ↓wq_r0b, ↓wq_r1b, ↓Option.bind_some, f2, e, ↓wq_b p3']
    · simp (disch := omega) only [↓xf_rf_putArgument_s, ↓xf_rf_putArgument_269_s, wq_ltT, wq_ltF, wq_inT, wq_clamp, wq_eqF, wq_eqm, wq_meq, wq_add, wq_mul, wq_subT, eq_self, Bool.false_eq_true, ↓reduceIte, Option.bind_some, Sum.elim_inl, Sum.elim_inr, ↓wq_f0b, ↓wq_f1b, ↓wq_f2b, ↓wq_r0b, ↓wq_r1b, ↓Option.bind_some, w1, e, ↓wq_b p4']
/-- a line -/
theorem wr_line (hM : wi_M n R u o a z m t c s rows lines used number name size order sort value start items names values ritems) (hV : wi_V n a z m t c rl numbers letters names parts sorts values ritems) {rlines : Nat → Int32} (hl : rlines 0 = Int32.ofNat n) {N : Nat} (hN : 41 ≤ N) {p : Nat} (hp : p < n) (M : Nat) (tsize th : Int32) (text : Nat → Int32) (W : Nat) (full len : Int32) (signs out : Nat → Int32) (wr : Int32) (hR : wr_R W full len signs out wr) (hW : W + 800 ≤ 1000000) :
    ∃ (W' : Nat) (full' len' : Int32) (signs' out' : Nat → Int32) (wr' : Int32), wr_R W' full' len' signs' out' wr' ∧ W' ≤ W + 800 ∧ xf_wr_writeLine items name number size sort start used value N full len signs (Int32.ofNat (o p)) = some ((), full', len', signs') ∧
      xf_rf_write_12 ritems letters rlines names numbers parts sorts values N (M + 1) out tsize text th wr (Int32.ofNat p) = xf_rf_write_12 ritems letters rlines names numbers parts sorts values N M out' tsize text th wr' (Int32.ofNat (p + 1)) := by
  have hn := hV.1.1
  obtain ⟨⟨g1, g2, g3, _⟩, g4, _, g5, _⟩ := id hM
  obtain ⟨f1, _, f3, f4, f5⟩ := g4 p hp
  obtain ⟨z0, z1, z2⟩ := hV.2.2.2.2.1 p hp
  obtain ⟨l0, l1, l2, l3⟩ := hV.2.2.2.1 p hp
  obtain ⟨n0, n1, n2⟩ := hV.2.1 p hp
  obtain ⟨W1, full1, len1, signs1, out1, wr1, a1, a2, a3, a4⟩ := wr_put (k := 35) (by omega) (by omega) W full len signs out wr hR (by omega)
  have a3' : xf_pg_add full len signs (Int32.ofNat 35) = some ((), full1, len1, signs1) := a3
  have a4' : xf_rf_put out wr (Int32.ofNat 35) = some ((), out1, wr1) := a4
  obtain ⟨y1, y2⟩ := wq_rng (k := a p) (by omega)
  obtain ⟨W2, full2, len2, signs2, out2, wr2, b1, b2, b3, b4⟩ := wr_num N N hN hN y1 y2 W1 full1 len1 signs1 out1 wr1 a1 (by omega)
  have b3' : xf_wr_writeNumber N full1 len1 signs1 (Int32.ofNat (a p)) = some ((), full2, len2, signs2) := b3
  have b4' : xf_rf_putNumber N out1 wr1 (Int32.ofNat (a p)) = some ((), out2, wr2) := b4
  obtain ⟨W3, full3, len3, signs3, out3, wr3, c1, c2, c3, c4⟩ := wr_put (k := 61) (by omega) (by omega) W2 full2 len2 signs2 out2 wr2 b1 (by omega)
  have c3' : xf_pg_add full2 len2 signs2 (Int32.ofNat 61) = some ((), full3, len3, signs3) := c3
  have c4' : xf_rf_put out2 wr2 (Int32.ofNat 61) = some ((), out3, wr3) := c4
  obtain ⟨W4, full4, len4, signs4, out4, wr4, d1, d2, d3, K, d4, d5⟩ := wr_name (items := ritems) (letters := letters) (lines := rlines) (numbers := numbers) (parts := parts) (sorts := sorts) (values := values) hN hN (p := p) (by omega) l2 l0 l3 (xf_rf_write_12 ritems letters rlines names numbers parts sorts values N M) tsize th text W3 full3 len3 signs3 out3 wr3 c1 (by omega)
  obtain ⟨W5, full5, len5, signs5, out5, wr5, e1, e2, e3, e4⟩ := wr_put (k := 40) (by omega) (by omega) W4 full4 len4 signs4 out4 wr4 d1 (by omega)
  have e3' : xf_pg_add full4 len4 signs4 (Int32.ofNat 40) = some ((), full5, len5, signs5) := e3
  have e4' : xf_rf_put out4 wr4 (Int32.ofNat 40) = some ((), out5, wr5) := e4
  -- the arguments
  have args : ∀ l k M1 M2 (W : Nat) (full len : Int32) (signs out : Nat → Int32) (wr : Int32), k + l = z p → l < M1 → l < M2 → wr_R W full len signs out wr → W + (81 * l + 2) ≤ 1000000 → ∃ (W' : Nat) (full' len' : Int32) (signs' out' : Nat → Int32) (wr' : Int32), wr_R W' full' len' signs' out' wr' ∧ W' ≤ W + (81 * l + 2) ∧ xf_wr_writeLine_40 items name number size sort start used value N M1 full len signs (Int32.ofNat (o p)) (Int32.ofNat k) = some ((), full', len', signs') ∧ xf_rf_write_85 ritems letters rlines names numbers parts sorts values (xf_rf_write_12 ritems letters rlines names numbers parts sorts values N M) N M2 out tsize text th wr (Int32.ofNat p) (Int32.ofNat k) = xf_rf_write_12 ritems letters rlines names numbers parts sorts values N M out' tsize text th wr' (Int32.ofNat (p + 1)) := by
    intro l
    induction l with
    | zero =>
      intro k M1 M2 W full len signs out wr hk hM1 hM2 hR hW
      obtain ⟨M1, rfl⟩ : ∃ M', M1 = M' + 1 := ⟨M1 - 1, by omega⟩
      obtain ⟨M2, rfl⟩ : ∃ M', M2 = M' + 1 := ⟨M2 - 1, by omega⟩
      obtain ⟨W', full', len', signs', out', wr', p1, p2, p3, p4⟩ := wr_put (k := 41) (by omega) (by omega) W full len signs out wr hR (by omega)
      have p3' : xf_pg_add full len signs (Int32.ofNat 41) = some ((), full', len', signs') := p3
      have p4' : xf_rf_put out wr (Int32.ofNat 41) = some ((), out', wr') := p4
      obtain ⟨W2, full2, len2, signs2, out2, wr2, q1, q2, q3, q4⟩ := wr_put (k := 59) (by omega) (by omega) W' full' len' signs' out' wr' p1 (by omega)
      have q3' : xf_pg_add full' len' signs' (Int32.ofNat 59) = some ((), full2, len2, signs2) := q3
      have q4' : xf_rf_put out' wr' (Int32.ofNat 59) = some ((), out2, wr2) := q4
      refine ⟨W2, full2, len2, signs2, out2, wr2, q1, by omega, ?_, ?_⟩
      · simp (disch := omega) only [↓xf_wr_writeLine_40_s, wq_ltT, wq_ltF, wq_inT, wq_clamp, wq_eqF, wq_eqm, wq_meq, wq_add, wq_mul, wq_subT, eq_self, Bool.false_eq_true, ↓reduceIte, Option.bind_some, Sum.elim_inl, Sum.elim_inr, ↓wq_f0b, ↓wq_f1b, ↓wq_f2b, ↓wq_r0b, ↓wq_r1b, ↓Option.bind_some, f4, ↓wq_b p3', ↓wq_b q3']
      · rw [xf_rf_write_85_s]
        simp (disch := omega) only [wq_ltT, wq_ltF, wq_inT, wq_clamp, wq_eqF, wq_eqm, wq_meq, wq_add, wq_mul, wq_subT, eq_self, Bool.false_eq_true, ↓reduceIte, Option.bind_some, Sum.elim_inl, Sum.elim_inr, ↓wq_f0b, ↓wq_f1b, ↓wq_f2b, ↓wq_r0b, ↓wq_r1b, ↓Option.bind_some, z0, ↓wq_b p4', ↓wq_b q4']
    | succ l ih =>
      intro k M1 M2 W full len signs out wr hk hM1 hM2 hR hW
      obtain ⟨M1, rfl⟩ : ∃ M', M1 = M' + 1 := ⟨M1 - 1, by omega⟩
      obtain ⟨M2, rfl⟩ : ∃ M', M2 = M' + 1 := ⟨M2 - 1, by omega⟩
      have comma : ∃ (W' : Nat) (full' len' : Int32) (signs' out' : Nat → Int32) (wr' : Int32), wr_R W' full' len' signs' out' wr' ∧ W' ≤ W + 1 ∧ xf_wr_writeLine_40 items name number size sort start used value N (M1 + 1) full len signs (Int32.ofNat (o p)) (Int32.ofNat k) = xf_wr_writeLine_60 items name number size sort start used value (xf_wr_writeLine_40 items name number size sort start used value N M1) N full' len' signs' (Int32.ofNat (o p)) (Int32.ofNat k) ∧ xf_rf_write_85 ritems letters rlines names numbers parts sorts values (xf_rf_write_12 ritems letters rlines names numbers parts sorts values N M) N (M2 + 1) out tsize text th wr (Int32.ofNat p) (Int32.ofNat k) = xf_rf_write_105 ritems letters rlines names numbers parts sorts values (xf_rf_write_12 ritems letters rlines names numbers parts sorts values N M) (xf_rf_write_85 ritems letters rlines names numbers parts sorts values (xf_rf_write_12 ritems letters rlines names numbers parts sorts values N M) N M2) N out' tsize text th wr' (Int32.ofNat p) (Int32.ofNat k) := by
        rw [xf_wr_writeLine_40_s, xf_rf_write_85_s]
        by_cases k0 : k = 0
        · subst k0
          refine ⟨W, full, len, signs, out, wr, hR, by omega, ?_, ?_⟩
          · simp (disch := omega) only [wq_ltT, wq_ltF, wq_inT, wq_clamp, wq_eqF, wq_eqm, wq_meq, wq_add, wq_mul, wq_subT, eq_self, Bool.false_eq_true, ↓reduceIte, Option.bind_some, Sum.elim_inl, Sum.elim_inr, ↓wq_f0b, ↓wq_f1b, ↓wq_f2b, ↓wq_r0b, ↓wq_r1b, ↓Option.bind_some, f4]
          · simp (disch := omega) only [wq_ltT, wq_ltF, wq_inT, wq_clamp, wq_eqF, wq_eqm, wq_meq, wq_add, wq_mul, wq_subT, eq_self, Bool.false_eq_true, ↓reduceIte, Option.bind_some, Sum.elim_inl, Sum.elim_inr, ↓wq_f0b, ↓wq_f1b, ↓wq_f2b, ↓wq_r0b, ↓wq_r1b, ↓Option.bind_some, z0]
        · obtain ⟨W', full', len', signs', out', wr', p1, p2, p3, p4⟩ := wr_put (k := 44) (by omega) (by omega) W full len signs out wr hR (by omega)
          have p3' : xf_pg_add full len signs (Int32.ofNat 44) = some ((), full', len', signs') := p3
          have p4' : xf_rf_put out wr (Int32.ofNat 44) = some ((), out', wr') := p4
          refine ⟨W', full', len', signs', out', wr', p1, by omega, ?_, ?_⟩
          · simp (disch := omega) only [wq_ltT, wq_ltF, wq_inT, wq_clamp, wq_eqF, wq_eqm, wq_meq, wq_add, wq_mul, wq_subT, eq_self, Bool.false_eq_true, ↓reduceIte, Option.bind_some, Sum.elim_inl, Sum.elim_inr, ↓wq_f0b, ↓wq_f1b, ↓wq_f2b, ↓wq_r0b, ↓wq_r1b, ↓Option.bind_some, f4, ↓wq_b p3']
          · simp (disch := omega) only [wq_ltT, wq_ltF, wq_inT, wq_clamp, wq_eqF, wq_eqm, wq_meq, wq_add, wq_mul, wq_subT, eq_self, Bool.false_eq_true, ↓reduceIte, Option.bind_some, Sum.elim_inl, Sum.elim_inr, ↓wq_f0b, ↓wq_f1b, ↓wq_f2b, ↓wq_r0b, ↓wq_r1b, ↓Option.bind_some, z0, ↓wq_b p4']
      obtain ⟨W', full', len', signs', out', wr', p1, p2, p3, p4⟩ := comma
      obtain ⟨W3, full3, len3, signs3, out3, wr3, s1, s2, s3, s4⟩ := wr_arg hM hV hN hp (k := k) (by omega) W' full' len' signs' out' wr' p1 (by omega)
      have s3' : xf_wr_writeArgument items sort start used value N full' len' signs' (Int32.ofNat (o p * 8 + k)) = some ((), full3, len3, signs3) := s3
      have s4' : xf_rf_putArgument ritems sorts values N out' wr' (Int32.ofNat (8 * p + k)) = some ((), out3, wr3) := s4
      obtain ⟨W2, full2, len2, signs2, out2, wr2, q1, q2, q3, q4⟩ := ih (k + 1) M1 M2 W3 full3 len3 signs3 out3 wr3 (by omega) (by omega) (by omega) s1 (by omega)
      refine ⟨W2, full2, len2, signs2, out2, wr2, q1, by omega, ?_, ?_⟩
      · rw [← q3, p3]
        simp (disch := omega) only [↓xf_wr_writeLine_60_s, wq_ltT, wq_ltF, wq_inT, wq_clamp, wq_eqF, wq_eqm, wq_meq, wq_add, wq_mul, wq_subT, eq_self, Bool.false_eq_true, ↓reduceIte, Option.bind_some, Sum.elim_inl, Sum.elim_inr, ↓wq_f0b, ↓wq_f1b, ↓wq_f2b, ↓wq_r0b, ↓wq_r1b, ↓Option.bind_some, ↓wq_b s3']
      · rw [← q4, p4]
        simp (disch := omega) only [↓xf_rf_write_105_s, wq_ltT, wq_ltF, wq_inT, wq_clamp, wq_eqF, wq_eqm, wq_meq, wq_add, wq_mul, wq_subT, eq_self, Bool.false_eq_true, ↓reduceIte, Option.bind_some, Sum.elim_inl, Sum.elim_inr, ↓wq_f0b, ↓wq_f1b, ↓wq_f2b, ↓wq_r0b, ↓wq_r1b, ↓Option.bind_some, ↓wq_b s4']
  obtain ⟨W6, full6, len6, signs6, out6, wr6, h1, h2, h3, h4⟩ := args (z p) 0 N N W5 full5 len5 signs5 out5 wr5 (by omega) (by omega) (by omega) e1 (by omega)
  refine ⟨W6, full6, len6, signs6, out6, wr6, h1, by omega, ?_, ?_⟩
  · simp (disch := omega) only [↓xf_wr_writeLine_s, wq_ltT, wq_ltF, wq_inT, wq_clamp, wq_eqF, wq_eqm, wq_meq, wq_add, wq_mul, wq_subT, eq_self, Bool.false_eq_true, ↓reduceIte, Option.bind_some, Sum.elim_inl, Sum.elim_inr, ↓wq_f0b, ↓wq_f1b, ↓wq_f2b, ↓wq_r0b, ↓wq_r1b, ↓Option.bind_some, ↓wq_b a3', f3, ↓wq_b b3', ↓wq_b c3', f5, ↓wq_b d3, ↓wq_b e3', h3]
  · obtain ⟨K', rfl⟩ : ∃ K', K = K' + 1 := ⟨K - 1, by omega⟩
    rw [← h4, xf_rf_write_12_s]
    simp (disch := omega) only [wq_ltT, wq_ltF, wq_inT, wq_clamp, wq_eqF, wq_eqm, wq_meq, wq_add, wq_mul, wq_subT, eq_self, Bool.false_eq_true, ↓reduceIte, Option.bind_some, Sum.elim_inl, Sum.elim_inr, ↓wq_f0b, ↓wq_f1b, ↓wq_f2b, ↓wq_r0b, ↓wq_r1b, ↓Option.bind_some, hl, ↓wq_b a4', n0, ↓wq_b b4', ↓wq_b c4', d5]
    rw [xf_rf_write_46_s]
    simp (disch := omega) only [wq_ltT, wq_ltF, wq_inT, wq_clamp, wq_eqF, wq_eqm, wq_meq, wq_add, wq_mul, wq_subT, eq_self, Bool.false_eq_true, ↓reduceIte, Option.bind_some, Sum.elim_inl, Sum.elim_inr, ↓wq_f0b, ↓wq_f1b, ↓wq_f2b, ↓wq_r0b, ↓wq_r1b, ↓Option.bind_some, l0, ↓wq_b e4']
end
