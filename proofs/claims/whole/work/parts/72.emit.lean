/-! WRITE: both sides add the same characters. -/
/-- the page of the class and what the reference has put -/
def wr_R (W : Nat) (full len : Int32) (signs out : Nat → Int32) (wr : Int32) : Prop :=
  W ≤ 1000000 ∧ wr = Int32.ofNat W ∧ len = Int32.ofNat (if W ≤ 1200 then W else 1200) ∧ full = Int32.ofNat (if W ≤ 1200 then 0 else 1) ∧ ∀ j, j < W → j < 1200 → out j = signs j ∧ ∃ k, 32 ≤ k ∧ k ≤ 126 ∧ signs j = Int32.ofNat k
/-- at most b characters, the same ones -/
def wr_E (b : Nat) (C : Int32 → Int32 → (Nat → Int32) → Option (Unit × Int32 × Int32 × (Nat → Int32))) (P : (Nat → Int32) → Int32 → Option (Unit × (Nat → Int32) × Int32)) : Prop :=
  ∀ (W : Nat) (full len : Int32) (signs out : Nat → Int32) (wr : Int32), wr_R W full len signs out wr → W + b ≤ 1000000 →
    ∃ (W' : Nat) (full' len' : Int32) (signs' out' : Nat → Int32) (wr' : Int32), wr_R W' full' len' signs' out' wr' ∧ W' ≤ W + b ∧ C full len signs = some ((), full', len', signs') ∧ P out wr = some ((), out', wr')
theorem wr_put {k : Nat} (h1 : 32 ≤ k) (h2 : k ≤ 126) : wr_E 1 (fun full len signs => xf_pg_add full len signs (Int32.ofNat k)) (fun out wr => xf_rf_put out wr (Int32.ofNat k)) := by
  intro W full len signs out wr hR hW
  obtain ⟨r0, r1, r2, r3, r4⟩ := hR
  by_cases h : W < 1200
  · rw [if_pos (by omega)] at r2 r3
    refine ⟨W + 1, Int32.ofNat 0, Int32.ofNat (W + 1), upd signs W (Int32.ofNat k), upd out W (Int32.ofNat k), Int32.ofNat (W + 1), ⟨by omega, rfl, by rw [if_pos (by omega)], by rw [if_pos (by omega)], fun j hj hj2 => ?_⟩, by omega, ?_, ?_⟩
    · by_cases e : j = W
      · rw [e, wq_upd1, wq_upd1]
        exact ⟨rfl, k, h1, h2, rfl⟩
      · rw [wq_upd2 e, wq_upd2 e]
        exact r4 j (by omega) hj2
    · rw [r2, r3]
      simp (disch := omega) only [↓xf_pg_add_47_s, ↓xf_pg_add_42_s, ↓xf_pg_add_s, wq_ltT, wq_ltF, wq_inT, wq_clamp, wq_eqF, wq_eqm, wq_meq, wq_add, wq_mul, wq_subT, eq_self, Bool.false_eq_true, ↓reduceIte, Option.bind_some, Sum.elim_inl, Sum.elim_inr, ↓wq_f0b, ↓wq_f1b, ↓wq_f2b, ↓wq_r0b, ↓wq_r1b, ↓Option.bind_some, wq_nar]
    · rw [r1]
      simp (disch := omega) only [↓xf_rf_put_20_s, ↓xf_rf_put_s, wq_ltT, wq_ltF, wq_inT, wq_clamp, wq_eqF, wq_eqm, wq_meq, wq_add, wq_mul, wq_subT, eq_self, Bool.false_eq_true, ↓reduceIte, Option.bind_some, Sum.elim_inl, Sum.elim_inr, ↓wq_f0b, ↓wq_f1b, ↓wq_f2b, ↓wq_r0b, ↓wq_r1b, ↓Option.bind_some]
  · refine ⟨W + 1, Int32.ofNat 1, Int32.ofNat 1200, signs, out, Int32.ofNat (W + 1), ⟨by omega, rfl, by rw [if_neg (by omega)], by rw [if_neg (by omega)], fun j hj hj2 => r4 j (by omega) hj2⟩, by omega, ?_, ?_⟩
    · have e2 : len = Int32.ofNat 1200 := by
        rw [r2]
        by_cases e : W ≤ 1200
        · rw [if_pos e, show W = 1200 by omega]
        · rw [if_neg e]
      rw [e2]
      simp (disch := omega) only [↓xf_pg_add_47_s, ↓xf_pg_add_42_s, ↓xf_pg_add_s, wq_ltT, wq_ltF, wq_inT, wq_clamp, wq_eqF, wq_eqm, wq_meq, wq_add, wq_mul, wq_subT, eq_self, Bool.false_eq_true, ↓reduceIte, Option.bind_some, Sum.elim_inl, Sum.elim_inr, ↓wq_f0b, ↓wq_f1b, ↓wq_f2b, ↓wq_r0b, ↓wq_r1b, ↓Option.bind_some]
    · rw [r1]
      simp (disch := omega) only [↓xf_rf_put_20_s, ↓xf_rf_put_s, wq_ltT, wq_ltF, wq_inT, wq_clamp, wq_eqF, wq_eqm, wq_meq, wq_add, wq_mul, wq_subT, eq_self, Bool.false_eq_true, ↓reduceIte, Option.bind_some, Sum.elim_inl, Sum.elim_inr, ↓wq_f0b, ↓wq_f1b, ↓wq_f2b, ↓wq_r0b, ↓wq_r1b, ↓Option.bind_some]
theorem wq_div {a b : Nat} (ha : a < 2147483648) (hb : b < 2147483648) : Int32.ofNat a / Int32.ofNat b = Int32.ofNat (a / b) := by
  have h1 : a / b ≤ a := Nat.div_le_self a b
  have e : (a : Int).tdiv (b : Int) = ((a / b : Nat) : Int) := rfl
  apply Int32.toInt_inj.mp
  rw [Int32.toInt_div, wq_int ha, wq_int hb, e]
  clear e
  generalize a / b = x at h1
  rw [wq_int (by omega), Int.bmod_eq_of_le] <;> omega
/-- the digits from a unit on, once begun -/
theorem wr_digits (n m : Nat) {v : Nat} (hv : v < 1000000000) : ∀ (j N M : Nat), j ≤ 8 → j + 1 < N → j + 1 < M → wr_E (j + 1) (fun full len signs => xf_wr_writeNumber_27 n N full len signs (Int32.ofNat v) (Int32.ofNat 1) (Int32.ofNat (10 ^ j))) (fun out wr => xf_rf_putNumber_39 m M out wr (Int32.ofNat v) (Int32.ofNat (10 ^ j))) := by
  intro j
  have e10 : (Int32.ofNat 10 = Int32.ofNat 0) = False := by decide
  have dg : ∀ j, v / 10 ^ j - v / 10 ^ j / 10 * 10 < 10 := by
    intro j
    omega
  have vd : ∀ j, v / 10 ^ j ≤ v := fun j => Nat.div_le_self v _
  have pw : ∀ j, j ≤ 8 → 0 < 10 ^ j ∧ 10 ^ j ≤ 100000000 := by
    intro j hj
    exact ⟨Nat.pow_pos (by omega), Nat.le_trans (Nat.pow_le_pow_right (by omega) hj) (by decide)⟩
  induction j with
  | zero =>
    intro N M _ hN hM W full len signs out wr hR hW
    obtain ⟨N', rfl⟩ : ∃ N', N = N' + 1 + 1 := ⟨N - 2, by omega⟩
    obtain ⟨M', rfl⟩ : ∃ M', M = M' + 1 + 1 := ⟨M - 2, by omega⟩
    have d0 := dg 0
    have v0 := vd 0
    obtain ⟨W', full', len', signs', out', wr', p1, p2, p3, p4⟩ := wr_put (k := 48 + (v / 10 ^ 0 - v / 10 ^ 0 / 10 * 10)) (by omega) (by omega) W full len signs out wr hR (by omega)
    refine ⟨W', full', len', signs', out', wr', p1, by omega, ?_, ?_⟩
    · have p3' : xf_pg_add full len signs (Int32.ofNat (48 + (v / 10 ^ 0 - v / 10 ^ 0 / 10 * 10))) = some ((), full', len', signs') := p3
      have z : 10 ^ 0 / 10 = 0 := by decide
      have o : (10 : Nat) ^ 0 = 1 := rfl
      rw [o] at p3' d0 v0
      simp (disch := omega) only [↓xf_wr_writeNumber_27_s, ↓xf_wr_writeNumber_56_s, ↓xf_wr_writeNumber_61_s, ↓xf_wr_writeNumber_76_s, wq_ltT, wq_ltF, wq_inT, wq_clamp, wq_eqF, wq_eqm, wq_meq, wq_add, wq_mul, wq_subT, eq_self, Bool.false_eq_true, ↓reduceIte, Option.bind_some, Sum.elim_inl, Sum.elim_inr, ↓wq_f0b, ↓wq_f1b, ↓wq_f2b, ↓wq_r0b, ↓wq_r1b, ↓Option.bind_some, wq_div, wq_i2c, e10, o, ↓wq_b p3', show 1 / 10 = 0 by decide]
    · have p4' : xf_rf_put out wr (Int32.ofNat (48 + (v / 10 ^ 0 - v / 10 ^ 0 / 10 * 10))) = some ((), out', wr') := p4
      have o : (10 : Nat) ^ 0 = 1 := rfl
      rw [o] at p4' d0 v0
      simp (disch := omega) only [↓xf_rf_putNumber_39_s, wq_ltT, wq_ltF, wq_inT, wq_clamp, wq_eqF, wq_eqm, wq_meq, wq_add, wq_mul, wq_subT, eq_self, Bool.false_eq_true, ↓reduceIte, Option.bind_some, Sum.elim_inl, Sum.elim_inr, ↓wq_f0b, ↓wq_f1b, ↓wq_f2b, ↓wq_r0b, ↓wq_r1b, ↓Option.bind_some, wq_div, e10, o, p4', show 1 / 10 = 0 by decide]
  | succ j ih =>
    intro N M hj hN hM W full len signs out wr hR hW
    obtain ⟨N', rfl⟩ : ∃ N', N = N' + 1 := ⟨N - 1, by omega⟩
    obtain ⟨M', rfl⟩ : ∃ M', M = M' + 1 := ⟨M - 1, by omega⟩
    have d0 := dg (j + 1)
    have v0 := vd (j + 1)
    obtain ⟨w1, w2⟩ := pw (j + 1) hj
    have w3 : 10 ^ (j + 1) / 10 = 10 ^ j := by
      rw [Nat.pow_succ]
      exact Nat.mul_div_cancel _ (by omega)
    obtain ⟨W', full', len', signs', out', wr', p1, p2, p3, p4⟩ := wr_put (k := 48 + (v / 10 ^ (j + 1) - v / 10 ^ (j + 1) / 10 * 10)) (by omega) (by omega) W full len signs out wr hR (by omega)
    obtain ⟨W2, full2, len2, signs2, out2, wr2, q1, q2, q3, q4⟩ := ih N' M' (by omega) (by omega) (by omega) W' full' len' signs' out' wr' p1 (by omega)
    refine ⟨W2, full2, len2, signs2, out2, wr2, q1, by omega, ?_, ?_⟩
    · have p3' : xf_pg_add full len signs (Int32.ofNat (48 + (v / 10 ^ (j + 1) - v / 10 ^ (j + 1) / 10 * 10))) = some ((), full', len', signs') := p3
      have q3' : xf_wr_writeNumber_27 n N' full' len' signs' (Int32.ofNat v) (Int32.ofNat 1) (Int32.ofNat (10 ^ j)) = some ((), full2, len2, signs2) := q3
      rw [← q3']
      show xf_wr_writeNumber_27 n (N' + 1) full len signs (Int32.ofNat v) (Int32.ofNat 1) (Int32.ofNat (10 ^ (j + 1))) = _
      rw [xf_wr_writeNumber_27_s]
      simp (disch := omega) only [↓xf_wr_writeNumber_56_s, ↓xf_wr_writeNumber_61_s, ↓xf_wr_writeNumber_76_s, wq_ltT, wq_ltF, wq_inT, wq_clamp, wq_eqF, wq_eqm, wq_meq, wq_add, wq_mul, wq_subT, eq_self, Bool.false_eq_true, ↓reduceIte, Option.bind_some, Sum.elim_inl, Sum.elim_inr, ↓wq_f0b, ↓wq_f1b, ↓wq_f2b, ↓wq_r0b, ↓wq_r1b, ↓Option.bind_some, wq_div, wq_i2c, e10, ↓wq_b p3', w3]
    · have p4' : xf_rf_put out wr (Int32.ofNat (48 + (v / 10 ^ (j + 1) - v / 10 ^ (j + 1) / 10 * 10))) = some ((), out', wr') := p4
      have q4' : xf_rf_putNumber_39 m M' out' wr' (Int32.ofNat v) (Int32.ofNat (10 ^ j)) = some ((), out2, wr2) := q4
      rw [← q4']
      show xf_rf_putNumber_39 m (M' + 1) out wr (Int32.ofNat v) (Int32.ofNat (10 ^ (j + 1))) = _
      rw [xf_rf_putNumber_39_s]
      simp (disch := omega) only [wq_ltT, wq_ltF, wq_inT, wq_clamp, wq_eqF, wq_eqm, wq_meq, wq_add, wq_mul, wq_subT, eq_self, Bool.false_eq_true, ↓reduceIte, Option.bind_some, Sum.elim_inl, Sum.elim_inr, ↓wq_f0b, ↓wq_f1b, ↓wq_f2b, ↓wq_r0b, ↓wq_r1b, ↓Option.bind_some, wq_div, e10, p4', w3]
/-- the digits of a number that isn't negative -/
theorem wr_num0 (n m : Nat) (hn : 41 ≤ n) (hm : 41 ≤ m) {v : Nat} (hv : v < 1000000000) : wr_E 9 (fun full len signs => xf_wr_writeNumber_20 n full len signs (Int32.ofNat v)) (fun out wr => xf_rf_putNumber_20 m out wr (Int32.ofNat v)) := by
  have e10 : (Int32.ofNat 10 = Int32.ofNat 0) = False := by decide
  have pw : ∀ j, j ≤ 9 → 0 < 10 ^ j ∧ 10 ^ j ≤ 1000000000 := by
    intro j hj
    exact ⟨Nat.pow_pos (by omega), Nat.le_trans (Nat.pow_le_pow_right (by omega) hj) (by decide)⟩
  have vd : ∀ j, v / 10 ^ j ≤ v := fun j => Nat.div_le_self v _
  -- the unit at which it begins
  have un : ∀ j, v < 10 ^ (j + 1) → ∃ i, i ≤ j ∧ v < 10 ^ (i + 1) ∧ (i = 0 ∨ 10 ^ i ≤ v) := by
    intro j
    induction j with
    | zero => intro h; exact ⟨0, Nat.le_refl 0, h, Or.inl rfl⟩
    | succ j ih =>
      intro h
      by_cases h2 : v < 10 ^ (j + 1)
      · obtain ⟨i, i1, i2, i3⟩ := ih h2
        exact ⟨i, by omega, i2, i3⟩
      · exact ⟨j + 1, Nat.le_refl _, h, Or.inr (by omega)⟩
  obtain ⟨i, i1, i2, i3⟩ := un 8 (by omega)
  -- the reference comes to it
  have rf : ∀ l j M out wr, j + l = i → l < M → xf_rf_putNumber_23 m M out wr (Int32.ofNat v) (Int32.ofNat (10 ^ j)) = xf_rf_putNumber_39 m m out wr (Int32.ofNat v) (Int32.ofNat (10 ^ i)) := by
    intro l
    induction l with
    | zero =>
      intro j M out wr hj hM
      obtain ⟨M', rfl⟩ : ∃ M', M = M' + 1 := ⟨M - 1, by omega⟩
      have e : j = i := by omega
      subst e
      obtain ⟨w1, w2⟩ := pw j (by omega)
      have w3 : v / 10 ^ j ≤ 9 := by
        have : v / 10 ^ j < 10 := by
          rw [Nat.div_lt_iff_lt_mul w1]
          rw [Nat.pow_succ] at i2
          omega
        omega
      simp (disch := omega) only [↓xf_rf_putNumber_23_s, wq_ltT, wq_ltF, wq_inT, wq_clamp, wq_eqF, wq_eqm, wq_meq, wq_add, wq_mul, wq_subT, eq_self, Bool.false_eq_true, ↓reduceIte, Option.bind_some, Sum.elim_inl, Sum.elim_inr, ↓wq_f0b, ↓wq_f1b, ↓wq_f2b, ↓wq_r0b, ↓wq_r1b, ↓Option.bind_some, wq_div]
    | succ l ih =>
      intro j M out wr hj hM
      obtain ⟨M', rfl⟩ : ∃ M', M = M' + 1 := ⟨M - 1, by omega⟩
      obtain ⟨w1, w2⟩ := pw j (by omega)
      have hi : 10 ^ (j + 1) ≤ v := by
        rcases i3 with i3 | i3
        · omega
        · exact Nat.le_trans (Nat.pow_le_pow_right (by omega) (by omega)) i3
      have w3 : 9 < v / 10 ^ j := by
        rw [Nat.lt_iff_add_one_le, Nat.le_div_iff_mul_le w1]
        rw [Nat.pow_succ] at hi
        omega
      have w4 := vd j
      have w5 : 10 * 10 ^ j = 10 ^ (j + 1) := by
        rw [Nat.pow_succ]
        omega
      rw [← ih (j + 1) M' out wr (by omega) (by omega), xf_rf_putNumber_23_s]
      simp (disch := omega) only [wq_ltT, wq_ltF, wq_inT, wq_clamp, wq_eqF, wq_eqm, wq_meq, wq_add, wq_mul, wq_subT, eq_self, Bool.false_eq_true, ↓reduceIte, Option.bind_some, Sum.elim_inl, Sum.elim_inr, ↓wq_f0b, ↓wq_f1b, ↓wq_f2b, ↓wq_r0b, ↓wq_r1b, ↓Option.bind_some, wq_div, w5]
  -- the class comes to it
  have cl : ∀ l j N full len signs, i + l = j → j ≤ 8 → l + i + 2 < N → xf_wr_writeNumber_27 n N full len signs (Int32.ofNat v) (Int32.ofNat 0) (Int32.ofNat (10 ^ j)) = xf_wr_writeNumber_27 n (N - l) full len signs (Int32.ofNat v) (Int32.ofNat 0) (Int32.ofNat (10 ^ i)) := by
    intro l
    induction l with
    | zero =>
      intro j N full len signs hj hj8 hN
      have e : j = i := by omega
      rw [e, Nat.sub_zero]
    | succ l ih =>
      intro j N full len signs hj hj8 hN
      obtain ⟨N', rfl⟩ : ∃ N', N = N' + 1 := ⟨N - 1, by omega⟩
      obtain ⟨j', rfl⟩ : ∃ j', j = j' + 1 := ⟨j - 1, by omega⟩
      obtain ⟨w1, w2⟩ := pw (j' + 1) (by omega)
      have hi : v < 10 ^ (j' + 1) := Nat.lt_of_lt_of_le i2 (Nat.pow_le_pow_right (by omega) (by omega))
      have w3 : v / 10 ^ (j' + 1) = 0 := Nat.div_eq_of_lt hi
      have w4 : 10 ^ (j' + 1) / 10 = 10 ^ j' := by
        rw [Nat.pow_succ]
        exact Nat.mul_div_cancel _ (by omega)
      have w5 : 10 ^ (j' + 1) ≠ 1 := by
        rw [Nat.pow_succ]
        omega
      have := ih j' N' full len signs (by omega) (by omega) (by omega)
      rw [show N' + 1 - (l + 1) = N' - l by omega, ← this, xf_wr_writeNumber_27_s]
      simp (disch := omega) only [↓xf_wr_writeNumber_61_s, ↓xf_wr_writeNumber_76_s, wq_ltT, wq_ltF, wq_inT, wq_clamp, wq_eqF, wq_eqm, wq_meq, wq_add, wq_mul, wq_subT, eq_self, Bool.false_eq_true, ↓reduceIte, Option.bind_some, Sum.elim_inl, Sum.elim_inr, ↓wq_f0b, ↓wq_f1b, ↓wq_f2b, ↓wq_r0b, ↓wq_r1b, ↓Option.bind_some, wq_div, e10, w3, w4, Nat.zero_div, Nat.zero_mul, Nat.sub_self]
  -- there it is as if begun
  have bg : ∀ N full len signs, xf_wr_writeNumber_27 n (N + 1) full len signs (Int32.ofNat v) (Int32.ofNat 0) (Int32.ofNat (10 ^ i)) = xf_wr_writeNumber_27 n (N + 1) full len signs (Int32.ofNat v) (Int32.ofNat 1) (Int32.ofNat (10 ^ i)) := by
    intro N full len signs
    obtain ⟨w1, w2⟩ := pw i (by omega)
    have w4 := vd i
    rw [xf_wr_writeNumber_27_s, xf_wr_writeNumber_27_s]
    by_cases hz : v / 10 ^ i - v / 10 ^ i / 10 * 10 = 0
    · have i0 : i = 0 := by
        rcases i3 with i3 | i3
        · exact i3
        · exfalso
          have w5 : 1 ≤ v / 10 ^ i := by
            rw [Nat.le_div_iff_mul_le w1]
            omega
          have w6 : v / 10 ^ i < 10 := by
            rw [Nat.div_lt_iff_lt_mul w1]
            rw [Nat.pow_succ] at i2
            omega
          omega
      subst i0
      have o : (10 : Nat) ^ 0 = 1 := rfl
      rw [o] at hz w4 ⊢
      simp (disch := omega) only [wq_ltT, wq_ltF, wq_inT, wq_clamp, wq_eqF, wq_eqm, wq_meq, wq_add, wq_mul, wq_subT, eq_self, Bool.false_eq_true, ↓reduceIte, Option.bind_some, Sum.elim_inl, Sum.elim_inr, ↓wq_f0b, ↓wq_f1b, ↓wq_f2b, ↓wq_r0b, ↓wq_r1b, ↓Option.bind_some, wq_div, e10, hz]
    · simp (disch := omega) only [wq_ltT, wq_ltF, wq_inT, wq_clamp, wq_eqF, wq_eqm, wq_meq, wq_add, wq_mul, wq_subT, eq_self, Bool.false_eq_true, ↓reduceIte, Option.bind_some, Sum.elim_inl, Sum.elim_inr, ↓wq_f0b, ↓wq_f1b, ↓wq_f2b, ↓wq_r0b, ↓wq_r1b, ↓Option.bind_some, wq_div, e10, hz]
  intro W full len signs out wr hR hW
  obtain ⟨N', hN'⟩ : ∃ N', n - (8 - i) = N' + 1 := ⟨n - (8 - i) - 1, by omega⟩
  obtain ⟨W', full', len', signs', out', wr', p1, p2, p3, p4⟩ := wr_digits n m hv i (N' + 1) m i1 (by omega) (by omega) W full len signs out wr hR (by omega)
  refine ⟨W', full', len', signs', out', wr', p1, by omega, ?_, ?_⟩
  · have p3' : xf_wr_writeNumber_27 n (N' + 1) full len signs (Int32.ofNat v) (Int32.ofNat 1) (Int32.ofNat (10 ^ i)) = some ((), full', len', signs') := p3
    have c1 := cl (8 - i) 8 n full len signs (by omega) (by omega) (by omega)
    rw [hN', bg, p3'] at c1
    exact c1
  · have p4' : xf_rf_putNumber_39 m m out wr (Int32.ofNat v) (Int32.ofNat (10 ^ i)) = some ((), out', wr') := p4
    have c1 := rf i 0 m out wr (by omega) (by omega)
    rw [p4'] at c1
    exact c1
/-- a number of a text -/
theorem wr_num (n m : Nat) (hn : 41 ≤ n) (hm : 41 ≤ m) {v : Int32} (h1 : ¬ v < -999999999) (h2 : ¬ Int32.ofNat 999999999 < v) : wr_E 10 (fun full len signs => xf_wr_writeNumber n full len signs v) (fun out wr => xf_rf_putNumber m out wr v) := by
  intro W full len signs out wr hR hW
  rcases wq_sgn v with hv | ⟨k, hk, rfl⟩
  · obtain ⟨k, k1, k2⟩ : ∃ k, k < 1000000000 ∧ -v = Int32.ofNat k := by
      have g1 := Int32.lt_iff_toInt_lt.mp hv
      have g2 : (Int32.ofNat 0).toInt = 0 := rfl
      have g3 : ¬ v.toInt < (-999999999 : Int32).toInt := fun hh => h1 (Int32.lt_iff_toInt_lt.mpr hh)
      have g4 : (-999999999 : Int32).toInt = -999999999 := by decide
      refine ⟨(-v.toInt).toNat, by omega, ?_⟩
      apply Int32.toInt_inj.mp
      rw [Int32.toInt_neg, wq_int (by omega), Int.bmod_eq_of_le] <;> omega
    obtain ⟨W', full', len', signs', out', wr', p1, p2, p3, p4⟩ := wr_put (k := 45) (by omega) (by omega) W full len signs out wr hR (by omega)
    obtain ⟨W2, full2, len2, signs2, out2, wr2, q1, q2, q3, q4⟩ := wr_num0 n m hn hm k1 W' full' len' signs' out' wr' p1 (by omega)
    refine ⟨W2, full2, len2, signs2, out2, wr2, q1, by omega, ?_, ?_⟩
    · have p3' : xf_pg_add full len signs (Int32.ofNat 45) = some ((), full', len', signs') := p3
      have q3' : xf_wr_writeNumber_20 n full' len' signs' (Int32.ofNat k) = some ((), full2, len2, signs2) := q3
      simp (disch := omega) only [↓xf_wr_writeNumber_s, ↓xf_wr_writeNumber_10_s, wq_ltT, wq_ltF, wq_inT, wq_clamp, wq_eqF, wq_eqm, wq_meq, wq_add, wq_mul, wq_subT, eq_self, Bool.false_eq_true, ↓reduceIte, Option.bind_some, Sum.elim_inl, Sum.elim_inr, ↓wq_f0b, ↓wq_f1b, ↓wq_f2b, ↓wq_r0b, ↓wq_r1b, ↓Option.bind_some, hv, ↓wq_b p3', k2, q3']
    · have p4' : xf_rf_put out wr (Int32.ofNat 45) = some ((), out', wr') := p4
      have q4' : xf_rf_putNumber_20 m out' wr' (Int32.ofNat k) = some ((), out2, wr2) := q4
      simp (disch := omega) only [↓xf_rf_putNumber_s, ↓xf_rf_putNumber_10_s, wq_ltT, wq_ltF, wq_inT, wq_clamp, wq_eqF, wq_eqm, wq_meq, wq_add, wq_mul, wq_subT, eq_self, Bool.false_eq_true, ↓reduceIte, Option.bind_some, Sum.elim_inl, Sum.elim_inr, ↓wq_f0b, ↓wq_f1b, ↓wq_f2b, ↓wq_r0b, ↓wq_r1b, ↓Option.bind_some, hv, ↓wq_b p4', k2, q4']
  · have k1 : k < 1000000000 := by
      rw [wq_lt (by omega) hk] at h2
      omega
    obtain ⟨W2, full2, len2, signs2, out2, wr2, q1, q2, q3, q4⟩ := wr_num0 n m hn hm k1 W full len signs out wr hR (by omega)
    refine ⟨W2, full2, len2, signs2, out2, wr2, q1, by omega, ?_, ?_⟩
    · have q3' : xf_wr_writeNumber_20 n full len signs (Int32.ofNat k) = some ((), full2, len2, signs2) := q3
      simp (disch := omega) only [↓xf_wr_writeNumber_s, ↓xf_wr_writeNumber_10_s, wq_ltT, wq_ltF, wq_inT, wq_clamp, wq_eqF, wq_eqm, wq_meq, wq_add, wq_mul, wq_subT, eq_self, Bool.false_eq_true, ↓reduceIte, Option.bind_some, Sum.elim_inl, Sum.elim_inr, ↓wq_f0b, ↓wq_f1b, ↓wq_f2b, ↓wq_r0b, ↓wq_r1b, ↓Option.bind_some, q3']
    · have q4' : xf_rf_putNumber_20 m out wr (Int32.ofNat k) = some ((), out2, wr2) := q4
      simp (disch := omega) only [↓xf_rf_putNumber_s, ↓xf_rf_putNumber_10_s, wq_ltT, wq_ltF, wq_inT, wq_clamp, wq_eqF, wq_eqm, wq_meq, wq_add, wq_mul, wq_subT, eq_self, Bool.false_eq_true, ↓reduceIte, Option.bind_some, Sum.elim_inl, Sum.elim_inr, ↓wq_f0b, ↓wq_f1b, ↓wq_f2b, ↓wq_r0b, ↓wq_r1b, ↓Option.bind_some, q4']
