/-! WORDS: what the class makes of a text. -/
def wt_dg (c : Nat) : Bool := decide (48 ≤ c) && decide (c ≤ 57)
def wt_lt (c : Nat) : Bool := decide (65 ≤ c) && decide (c ≤ 90)
theorem wt_dg_iff {c : Nat} : wt_dg c = true ↔ 48 ≤ c ∧ c ≤ 57 := by
  unfold wt_dg
  rw [Bool.and_eq_true, decide_eq_true_eq, decide_eq_true_eq]
theorem wt_lt_iff {c : Nat} : wt_lt c = true ↔ 65 ≤ c ∧ c ≤ 90 := by
  unfold wt_lt
  rw [Bool.and_eq_true, decide_eq_true_eq, decide_eq_true_eq]
/-- what stands at a place, 0 behind the end -/
def wt_c (ch : Nat → Nat) (E j : Nat) : Nat := if j < E then ch j else 0
/-- where a run of such characters ends -/
def wt_end (P : Nat → Bool) (ch : Nat → Nat) (E j : Nat) : Nat := if h : j < E then (if P (ch j) = true then wt_end P ch E (j + 1) else j) else j
termination_by E - j
/-- where a text ends, from behind its first quote on -/
def wt_tx (ch : Nat → Nat) (E j : Nat) : Option Nat := if h : j < E then (if ch j = 39 then (if wt_c ch E (j + 1) = 39 then wt_tx ch E (j + 2) else some (j + 1)) else wt_tx ch E (j + 1)) else none
termination_by E - j
theorem wt_end1 {P : Nat → Bool} {ch : Nat → Nat} {E j : Nat} (h : j < E) (hp : P (ch j) = true) : wt_end P ch E j = wt_end P ch E (j + 1) := by
  rw [wt_end, dif_pos h, if_pos hp]
theorem wt_end2 {P : Nat → Bool} {ch : Nat → Nat} {E j : Nat} (h : j < E) (hp : ¬ P (ch j) = true) : wt_end P ch E j = j := by
  rw [wt_end, dif_pos h, if_neg hp]
theorem wt_end3 {P : Nat → Bool} {ch : Nat → Nat} {E j : Nat} (h : ¬ j < E) : wt_end P ch E j = j := by
  rw [wt_end, dif_neg h]
theorem wt_end_le {P : Nat → Bool} {ch : Nat → Nat} {E : Nat} : ∀ k j, j + k = E → j ≤ wt_end P ch E j ∧ wt_end P ch E j ≤ E ∧ (∀ i, j ≤ i → i < wt_end P ch E j → P (ch i) = true) ∧ (wt_end P ch E j < E → ¬ P (ch (wt_end P ch E j)) = true) := by
  intro k
  induction k with
  | zero =>
    intro j hj
    rw [wt_end3 (by omega)]
    exact ⟨Nat.le_refl j, by omega, fun i h1 h2 => by omega, fun h => by omega⟩
  | succ k ih =>
    intro j hj
    by_cases hp : P (ch j) = true
    · rw [wt_end1 (by omega) hp]
      obtain ⟨h1, h2, h3, h4⟩ := ih (j + 1) (by omega)
      refine ⟨by omega, h2, fun i g1 g2 => ?_, h4⟩
      by_cases e : i = j
      · rw [e]
        exact hp
      · exact h3 i (by omega) g2
    · rw [wt_end2 (by omega) hp]
      exact ⟨Nat.le_refl j, by omega, fun i h1 h2 => by omega, fun _ => hp⟩
theorem wt_tx_le {ch : Nat → Nat} {E : Nat} : ∀ k j r, E ≤ j + k → wt_tx ch E j = some r → j < r ∧ r ≤ E := by
  intro k
  induction k with
  | zero =>
    intro j r hj h
    rw [wt_tx, dif_neg (by omega)] at h
    exact absurd h (by simp)
  | succ k ih =>
    intro j r hj h
    rw [wt_tx] at h
    by_cases hE : j < E
    · rw [dif_pos hE] at h
      by_cases h39 : ch j = 39
      · rw [if_pos h39] at h
        by_cases h2 : wt_c ch E (j + 1) = 39
        · rw [if_pos h2] at h
          have := ih (j + 2) r (by omega) h
          omega
        · rw [if_neg h2] at h
          have := Option.some.inj h
          omega
      · rw [if_neg h39] at h
        have := ih (j + 1) r (by omega) h
        omega
    · rw [dif_neg hE] at h
      exact absurd h (by simp)
section
variable {E : Nat} {ch : Nat → Nat} {signs : Nat → Int32}
theorem wt_sign (hE : E ≤ 1200) (hch : ∀ j, j < E → signs j = Int32.ofNat (ch j) ∧ 32 ≤ ch j ∧ ch j ≤ 126) {j : Nat} (hj : j < 2147483648) : xf_pg_signAt (Int32.ofNat E) signs (Int32.ofNat j) = some (Int32.ofNat (wt_c ch E j)) := by
  have fc : ∀ k, k ≤ 126 → (fits .char (.int (Int32.ofNat k)) = true) = True := by
    intro k hk
    apply eq_true
    show (decide ((0 : Int32) ≤ Int32.ofNat k) && decide (Int32.ofNat k ≤ (65535 : Int32))) = true
    rw [Bool.and_eq_true, decide_eq_true_eq, decide_eq_true_eq, Int32.le_iff_toInt_le, Int32.le_iff_toInt_le, wq_int (by omega)]
    have e1 : (0 : Int32).toInt = 0 := by decide
    have e2 : (65535 : Int32).toInt = 65535 := by decide
    omega
  unfold wt_c
  by_cases h : j < E
  · obtain ⟨h1, h2, h3⟩ := hch j h
    rw [if_pos h]
    simp (disch := omega) only [↓xf_pg_signAt_22_s, ↓xf_pg_signAt_21_s, ↓xf_pg_signAt_s, wq_ltT, wq_ltF, wq_inT, wq_clamp, wq_eqF, wq_eqm, wq_meq, wq_add, wq_mul, wq_subT, eq_self, Bool.false_eq_true, ↓reduceIte, Option.bind_some, Sum.elim_inl, Sum.elim_inr, ↓wq_f0b, ↓wq_f1b, ↓wq_f2b, ↓wq_r0b, ↓wq_r1b, ↓Option.bind_some, h1, fc]
  · rw [if_neg h]
    simp (disch := omega) only [↓xf_pg_signAt_22_s, ↓xf_pg_signAt_21_s, ↓xf_pg_signAt_s, wq_ltT, wq_ltF, wq_inT, wq_clamp, wq_eqF, wq_eqm, wq_meq, wq_add, wq_mul, wq_subT, eq_self, Bool.false_eq_true, ↓reduceIte, Option.bind_some, Sum.elim_inl, Sum.elim_inr, ↓wq_f0b, ↓wq_f1b, ↓wq_f2b, ↓wq_r0b, ↓wq_r1b, ↓Option.bind_some, fc]
theorem wt_isD {c : Nat} (hc : c < 2147483648) : xf_xt_isDigit (Int32.ofNat c) = some (Int32.ofNat (if wt_dg c = true then 1 else 0)) := by
  have ef0 : (fits .boolean (.int (Int32.ofNat 0)) = true) = True := by decide
  have ef1 : (fits .boolean (.int (Int32.ofNat 1)) = true) = True := by decide
  by_cases h : 48 ≤ c ∧ c ≤ 57
  · rw [if_pos (wt_dg_iff.mpr h)]
    simp (disch := omega) only [↓xf_xt_isDigit_17_s, ↓xf_xt_isDigit_16_s, ↓xf_xt_isDigit_s, wq_ltT, wq_ltF, wq_inT, wq_clamp, wq_eqF, wq_eqm, wq_meq, wq_add, wq_mul, wq_subT, eq_self, Bool.false_eq_true, ↓reduceIte, Option.bind_some, Sum.elim_inl, Sum.elim_inr, ↓wq_f0b, ↓wq_f1b, ↓wq_f2b, ↓wq_r0b, ↓wq_r1b, ↓Option.bind_some, ef1]
  · rw [if_neg (fun hh => h (wt_dg_iff.mp hh))]
    by_cases h1 : c < 48
    · simp (disch := omega) only [↓xf_xt_isDigit_17_s, ↓xf_xt_isDigit_16_s, ↓xf_xt_isDigit_s, wq_ltT, wq_ltF, wq_inT, wq_clamp, wq_eqF, wq_eqm, wq_meq, wq_add, wq_mul, wq_subT, eq_self, Bool.false_eq_true, ↓reduceIte, Option.bind_some, Sum.elim_inl, Sum.elim_inr, ↓wq_f0b, ↓wq_f1b, ↓wq_f2b, ↓wq_r0b, ↓wq_r1b, ↓Option.bind_some, ef0]
    · simp (disch := omega) only [↓xf_xt_isDigit_17_s, ↓xf_xt_isDigit_16_s, ↓xf_xt_isDigit_s, wq_ltT, wq_ltF, wq_inT, wq_clamp, wq_eqF, wq_eqm, wq_meq, wq_add, wq_mul, wq_subT, eq_self, Bool.false_eq_true, ↓reduceIte, Option.bind_some, Sum.elim_inl, Sum.elim_inr, ↓wq_f0b, ↓wq_f1b, ↓wq_f2b, ↓wq_r0b, ↓wq_r1b, ↓Option.bind_some, ef0]
theorem wt_isL {c : Nat} (hc : c < 2147483648) : xf_xt_isLetter (Int32.ofNat c) = some (Int32.ofNat (if wt_lt c = true then 1 else 0)) := by
  have ef0 : (fits .boolean (.int (Int32.ofNat 0)) = true) = True := by decide
  have ef1 : (fits .boolean (.int (Int32.ofNat 1)) = true) = True := by decide
  by_cases h : 65 ≤ c ∧ c ≤ 90
  · rw [if_pos (wt_lt_iff.mpr h)]
    simp (disch := omega) only [↓xf_xt_isLetter_17_s, ↓xf_xt_isLetter_16_s, ↓xf_xt_isLetter_s, wq_ltT, wq_ltF, wq_inT, wq_clamp, wq_eqF, wq_eqm, wq_meq, wq_add, wq_mul, wq_subT, eq_self, Bool.false_eq_true, ↓reduceIte, Option.bind_some, Sum.elim_inl, Sum.elim_inr, ↓wq_f0b, ↓wq_f1b, ↓wq_f2b, ↓wq_r0b, ↓wq_r1b, ↓Option.bind_some, ef1]
  · rw [if_neg (fun hh => h (wt_lt_iff.mp hh))]
    by_cases h1 : c < 65
    · simp (disch := omega) only [↓xf_xt_isLetter_17_s, ↓xf_xt_isLetter_16_s, ↓xf_xt_isLetter_s, wq_ltT, wq_ltF, wq_inT, wq_clamp, wq_eqF, wq_eqm, wq_meq, wq_add, wq_mul, wq_subT, eq_self, Bool.false_eq_true, ↓reduceIte, Option.bind_some, Sum.elim_inl, Sum.elim_inr, ↓wq_f0b, ↓wq_f1b, ↓wq_f2b, ↓wq_r0b, ↓wq_r1b, ↓Option.bind_some, ef0]
    · simp (disch := omega) only [↓xf_xt_isLetter_17_s, ↓xf_xt_isLetter_16_s, ↓xf_xt_isLetter_s, wq_ltT, wq_ltF, wq_inT, wq_clamp, wq_eqF, wq_eqm, wq_meq, wq_add, wq_mul, wq_subT, eq_self, Bool.false_eq_true, ↓reduceIte, Option.bind_some, Sum.elim_inl, Sum.elim_inr, ↓wq_f0b, ↓wq_f1b, ↓wq_f2b, ↓wq_r0b, ↓wq_r1b, ↓Option.bind_some, ef0]
theorem wt_c_lt (hch : ∀ j, j < E → signs j = Int32.ofNat (ch j) ∧ 32 ≤ ch j ∧ ch j ≤ 126) (j : Nat) : wt_c ch E j ≤ 126 := by
  unfold wt_c
  by_cases h : j < E
  · rw [if_pos h]
    exact (hch j h).2.2
  · rw [if_neg h]
    omega
theorem wt_letters (hE : E ≤ 1200) (hch : ∀ j, j < E → signs j = Int32.ofNat (ch j) ∧ 32 ≤ ch j ∧ ch j ≤ 126) {N : Nat} : ∀ k j M, j + k = E → k < M → xf_wd_endFrom_61 (Int32.ofNat E) signs N M (Int32.ofNat j) = some (Int32.ofNat (wt_end wt_lt ch E j)) := by
  intro k
  induction k with
  | zero =>
    intro j M hj hM
    obtain ⟨M', rfl⟩ : ∃ M', M = M' + 1 := ⟨M - 1, by omega⟩
    rw [wt_end3 (by omega)]
    simp (disch := omega) only [↓xf_wd_endFrom_61_s, ↓xf_wd_endFrom_92_s, wq_ltT, wq_ltF, wq_inT, wq_clamp, wq_eqF, wq_eqm, wq_meq, wq_add, wq_mul, wq_subT, eq_self, Bool.false_eq_true, ↓reduceIte, Option.bind_some, Sum.elim_inl, Sum.elim_inr, ↓wq_f0b, ↓wq_f1b, ↓wq_f2b, ↓wq_r0b, ↓wq_r1b, ↓Option.bind_some]
  | succ k ih =>
    intro j M hj hM
    obtain ⟨M', rfl⟩ : ∃ M', M = M' + 1 := ⟨M - 1, by omega⟩
    have e1 := wt_sign hE hch (j := j) (by omega)
    have c1 := wt_c_lt hch j
    have e2 := wt_isL (c := wt_c ch E j) (by omega)
    have cj : wt_c ch E j = ch j := if_pos (by omega)
    by_cases h : wt_lt (ch j) = true
    · rw [cj, if_pos h] at e2
      rw [cj] at e1
      rw [wt_end1 (by omega) h, ← ih (j + 1) M' (by omega) (by omega), xf_wd_endFrom_61_s]
      simp (disch := omega) only [wq_ltT, wq_ltF, wq_inT, wq_clamp, wq_eqF, wq_eqm, wq_meq, wq_add, wq_mul, wq_subT, eq_self, Bool.false_eq_true, ↓reduceIte, Option.bind_some, Sum.elim_inl, Sum.elim_inr, ↓wq_f0b, ↓wq_f1b, ↓wq_f2b, ↓wq_r0b, ↓wq_r1b, ↓Option.bind_some, ↓wq_b e1, ↓wq_b e2]
    · rw [cj, if_neg h] at e2
      rw [cj] at e1
      rw [wt_end2 (by omega) h]
      simp (disch := omega) only [↓xf_wd_endFrom_61_s, ↓xf_wd_endFrom_92_s, wq_ltT, wq_ltF, wq_inT, wq_clamp, wq_eqF, wq_eqm, wq_meq, wq_add, wq_mul, wq_subT, eq_self, Bool.false_eq_true, ↓reduceIte, Option.bind_some, Sum.elim_inl, Sum.elim_inr, ↓wq_f0b, ↓wq_f1b, ↓wq_f2b, ↓wq_r0b, ↓wq_r1b, ↓Option.bind_some, ↓wq_b e1, ↓wq_b e2]
theorem wt_digits (hE : E ≤ 1200) (hch : ∀ j, j < E → signs j = Int32.ofNat (ch j) ∧ 32 ≤ ch j ∧ ch j ≤ 126) {N : Nat} : ∀ k j M, j + k = E → k < M → xf_wd_endFrom_23 (Int32.ofNat E) signs N M (Int32.ofNat j) = some (Int32.ofNat (wt_end wt_dg ch E j)) := by
  intro k
  induction k with
  | zero =>
    intro j M hj hM
    obtain ⟨M', rfl⟩ : ∃ M', M = M' + 1 := ⟨M - 1, by omega⟩
    rw [wt_end3 (by omega)]
    simp (disch := omega) only [↓xf_wd_endFrom_23_s, ↓xf_wd_endFrom_92_s, wq_ltT, wq_ltF, wq_inT, wq_clamp, wq_eqF, wq_eqm, wq_meq, wq_add, wq_mul, wq_subT, eq_self, Bool.false_eq_true, ↓reduceIte, Option.bind_some, Sum.elim_inl, Sum.elim_inr, ↓wq_f0b, ↓wq_f1b, ↓wq_f2b, ↓wq_r0b, ↓wq_r1b, ↓Option.bind_some]
  | succ k ih =>
    intro j M hj hM
    obtain ⟨M', rfl⟩ : ∃ M', M = M' + 1 := ⟨M - 1, by omega⟩
    have e1 := wt_sign hE hch (j := j) (by omega)
    have c1 := wt_c_lt hch j
    have e2 := wt_isD (c := wt_c ch E j) (by omega)
    have cj : wt_c ch E j = ch j := if_pos (by omega)
    by_cases h : wt_dg (ch j) = true
    · rw [cj, if_pos h] at e2
      rw [cj] at e1
      rw [wt_end1 (by omega) h, ← ih (j + 1) M' (by omega) (by omega), xf_wd_endFrom_23_s]
      simp (disch := omega) only [wq_ltT, wq_ltF, wq_inT, wq_clamp, wq_eqF, wq_eqm, wq_meq, wq_add, wq_mul, wq_subT, eq_self, Bool.false_eq_true, ↓reduceIte, Option.bind_some, Sum.elim_inl, Sum.elim_inr, ↓wq_f0b, ↓wq_f1b, ↓wq_f2b, ↓wq_r0b, ↓wq_r1b, ↓Option.bind_some, ↓wq_b e1, ↓wq_b e2]
    · rw [cj, if_neg h] at e2
      rw [cj] at e1
      rw [wt_end2 (by omega) h]
      simp (disch := omega) only [↓xf_wd_endFrom_23_s, ↓xf_wd_endFrom_92_s, wq_ltT, wq_ltF, wq_inT, wq_clamp, wq_eqF, wq_eqm, wq_meq, wq_add, wq_mul, wq_subT, eq_self, Bool.false_eq_true, ↓reduceIte, Option.bind_some, Sum.elim_inl, Sum.elim_inr, ↓wq_f0b, ↓wq_f1b, ↓wq_f2b, ↓wq_r0b, ↓wq_r1b, ↓Option.bind_some, ↓wq_b e1, ↓wq_b e2]
/-- an end as a number, -1 for none -/
def wt_eo : Option Nat → Int32
  | some r => Int32.ofNat r
  | none => -1
theorem wt_text (hE : E ≤ 1200) (hch : ∀ j, j < E → signs j = Int32.ofNat (ch j) ∧ 32 ≤ ch j ∧ ch j ≤ 126) {N : Nat} : ∀ k j M, E ≤ j + k → j ≤ E + 1 → k < M → xf_wd_textEndFrom_4 (Int32.ofNat E) signs N M (Int32.ofNat j) = some (wt_eo (wt_tx ch E j)) := by
  intro k
  induction k with
  | zero =>
    intro j M hj hj2 hM
    obtain ⟨M', rfl⟩ : ∃ M', M = M' + 1 := ⟨M - 1, by omega⟩
    rw [wt_tx, dif_neg (by omega)]
    simp (disch := omega) only [↓xf_wd_textEndFrom_4_s, wq_ltT, wq_ltF, wq_inT, wq_clamp, wq_eqF, wq_eqm, wq_meq, wq_add, wq_mul, wq_subT, eq_self, Bool.false_eq_true, ↓reduceIte, Option.bind_some, Sum.elim_inl, Sum.elim_inr, ↓wq_f0b, ↓wq_f1b, ↓wq_f2b, ↓wq_r0b, ↓wq_r1b, ↓Option.bind_some, wt_eo]
  | succ k ih =>
    intro j M hj hj2 hM
    obtain ⟨M', rfl⟩ : ∃ M', M = M' + 1 := ⟨M - 1, by omega⟩
    by_cases hjE : j < E
    · have e1 := wt_sign hE hch (j := j) (by omega)
      have e2 := wt_sign hE hch (j := j + 1) (by omega)
      have c1 := wt_c_lt hch j
      have c2 := wt_c_lt hch (j + 1)
      have cj : wt_c ch E j = ch j := if_pos (by omega)
      rw [cj] at e1 c1
      rw [wt_tx, dif_pos hjE]
      by_cases h39 : ch j = 39
      · rw [if_pos h39]
        rw [h39] at e1
        by_cases h2 : wt_c ch E (j + 1) = 39
        · rw [if_pos h2]
          rw [h2] at e2
          by_cases hj3 : j + 2 ≤ E + 1
          · rw [← ih (j + 2) M' (by omega) hj3 (by omega), xf_wd_textEndFrom_4_s]
            simp (disch := omega) only [↓xf_wd_textEndFrom_50_s, wq_ltT, wq_ltF, wq_inT, wq_clamp, wq_eqF, wq_eqm, wq_meq, wq_add, wq_mul, wq_subT, eq_self, Bool.false_eq_true, ↓reduceIte, Option.bind_some, Sum.elim_inl, Sum.elim_inr, ↓wq_f0b, ↓wq_f1b, ↓wq_f2b, ↓wq_r0b, ↓wq_r1b, ↓Option.bind_some, ↓wq_b e1, ↓wq_b e2, Nat.add_assoc, Nat.reduceAdd]
          · exfalso
            unfold wt_c at h2
            rw [if_neg (by omega)] at h2
            omega
        · rw [if_neg h2]
          simp (disch := omega) only [↓xf_wd_textEndFrom_4_s, wq_ltT, wq_ltF, wq_inT, wq_clamp, wq_eqF, wq_eqm, wq_meq, wq_add, wq_mul, wq_subT, eq_self, Bool.false_eq_true, ↓reduceIte, Option.bind_some, Sum.elim_inl, Sum.elim_inr, ↓wq_f0b, ↓wq_f1b, ↓wq_f2b, ↓wq_r0b, ↓wq_r1b, ↓Option.bind_some, ↓wq_b e1, ↓wq_b e2, wt_eo]
      · rw [if_neg h39, ← ih (j + 1) M' (by omega) (by omega) (by omega), xf_wd_textEndFrom_4_s]
        simp (disch := omega) only [↓xf_wd_textEndFrom_50_s, wq_ltT, wq_ltF, wq_inT, wq_clamp, wq_eqF, wq_eqm, wq_meq, wq_add, wq_mul, wq_subT, eq_self, Bool.false_eq_true, ↓reduceIte, Option.bind_some, Sum.elim_inl, Sum.elim_inr, ↓wq_f0b, ↓wq_f1b, ↓wq_f2b, ↓wq_r0b, ↓wq_r1b, ↓Option.bind_some, ↓wq_b e1]
    · rw [wt_tx, dif_neg hjE]
      simp (disch := omega) only [↓xf_wd_textEndFrom_4_s, wq_ltT, wq_ltF, wq_inT, wq_clamp, wq_eqF, wq_eqm, wq_meq, wq_add, wq_mul, wq_subT, eq_self, Bool.false_eq_true, ↓reduceIte, Option.bind_some, Sum.elim_inl, Sum.elim_inr, ↓wq_f0b, ↓wq_f1b, ↓wq_f2b, ↓wq_r0b, ↓wq_r1b, ↓Option.bind_some, wt_eo]
/-- where the word ends that begins at b; o: letters are words of their own -/
def wt_e (ch : Nat → Nat) (E : Nat) (o : Bool) (b : Nat) : Option Nat := if o = true ∧ wt_lt (ch b) = true then some (b + 1) else if ch b = 39 then wt_tx ch E (b + 1) else if wt_dg (ch b) = true then some (wt_end wt_dg ch E (b + 1)) else if wt_lt (ch b) = true then some (wt_end wt_lt ch E (b + 1)) else some (b + 1)
theorem wt_e_le {o : Bool} {b r : Nat} (hb : b < E) (h : wt_e ch E o b = some r) : b < r ∧ r ≤ E := by
  unfold wt_e at h
  by_cases h1 : o = true ∧ wt_lt (ch b) = true
  · rw [if_pos h1] at h
    have := Option.some.inj h
    omega
  · rw [if_neg h1] at h
    by_cases h2 : ch b = 39
    · rw [if_pos h2] at h
      have := wt_tx_le (E - b) (b + 1) r (by omega) h
      omega
    · rw [if_neg h2] at h
      by_cases h3 : wt_dg (ch b) = true
      · rw [if_pos h3] at h
        have e := Option.some.inj h
        have := wt_end_le (P := wt_dg) (ch := ch) (E := E) (E - (b + 1)) (b + 1) (by omega)
        omega
      · rw [if_neg h3] at h
        by_cases h4 : wt_lt (ch b) = true
        · rw [if_pos h4] at h
          have e := Option.some.inj h
          have := wt_end_le (P := wt_lt) (ch := ch) (E := E) (E - (b + 1)) (b + 1) (by omega)
          omega
        · rw [if_neg h4] at h
          have := Option.some.inj h
          omega
theorem wt_endFrom (hE : E ≤ 1200) (hch : ∀ j, j < E → signs j = Int32.ofNat (ch j) ∧ 32 ≤ ch j ∧ ch j ≤ 126) {N : Nat} (hN : 1300 ≤ N) {b : Nat} (hb : b < E) : xf_wd_endFrom (Int32.ofNat E) signs N (Int32.ofNat b) (Int32.ofNat (ch b)) = some (wt_eo (wt_e ch E false b)) := by
  obtain ⟨_, _, c2⟩ := hch b hb
  unfold wt_e
  rw [if_neg (by simp)]
  by_cases h2 : ch b = 39
  · rw [if_pos h2]
    have e1 := wt_text hE hch (N := N) E (b + 1) N (by omega) (by omega) (by omega)
    have e2 : xf_wd_textEndFrom (Int32.ofNat E) signs N (Int32.ofNat b) = some (wt_eo (wt_tx ch E (b + 1))) := by
      rw [xf_wd_textEndFrom_s, wq_add]
      exact e1
    simp (disch := omega) only [↓xf_wd_endFrom_s, wq_ltT, wq_ltF, wq_inT, wq_clamp, wq_eqF, wq_eqm, wq_meq, wq_add, wq_mul, wq_subT, eq_self, Bool.false_eq_true, ↓reduceIte, Option.bind_some, Sum.elim_inl, Sum.elim_inr, ↓wq_f0b, ↓wq_f1b, ↓wq_f2b, ↓wq_r0b, ↓wq_r1b, ↓Option.bind_some, h2, ↓wq_b e2]
  · rw [if_neg h2]
    have d1 := wt_isD (c := ch b) (by omega)
    have l1 := wt_isL (c := ch b) (by omega)
    by_cases h3 : wt_dg (ch b) = true
    · rw [if_pos h3] at d1 ⊢
      have e1 := wt_digits hE hch (N := N) (E - (b + 1)) (b + 1) N (by omega) (by omega)
      simp (disch := omega) only [↓xf_wd_endFrom_s, wq_ltT, wq_ltF, wq_inT, wq_clamp, wq_eqF, wq_eqm, wq_meq, wq_add, wq_mul, wq_subT, eq_self, Bool.false_eq_true, ↓reduceIte, Option.bind_some, Sum.elim_inl, Sum.elim_inr, ↓wq_f0b, ↓wq_f1b, ↓wq_f2b, ↓wq_r0b, ↓wq_r1b, ↓Option.bind_some, ↓wq_b d1, e1, wt_eo]
    · rw [if_neg h3] at d1 ⊢
      by_cases h4 : wt_lt (ch b) = true
      · rw [if_pos h4] at l1 ⊢
        have e1 := wt_letters hE hch (N := N) (E - (b + 1)) (b + 1) N (by omega) (by omega)
        simp (disch := omega) only [↓xf_wd_endFrom_s, wq_ltT, wq_ltF, wq_inT, wq_clamp, wq_eqF, wq_eqm, wq_meq, wq_add, wq_mul, wq_subT, eq_self, Bool.false_eq_true, ↓reduceIte, Option.bind_some, Sum.elim_inl, Sum.elim_inr, ↓wq_f0b, ↓wq_f1b, ↓wq_f2b, ↓wq_r0b, ↓wq_r1b, ↓Option.bind_some, ↓wq_b d1, ↓wq_b l1, e1, wt_eo]
      · rw [if_neg h4] at l1 ⊢
        simp (disch := omega) only [↓xf_wd_endFrom_s, ↓xf_wd_endFrom_92_s, wq_ltT, wq_ltF, wq_inT, wq_clamp, wq_eqF, wq_eqm, wq_meq, wq_add, wq_mul, wq_subT, eq_self, Bool.false_eq_true, ↓reduceIte, Option.bind_some, Sum.elim_inl, Sum.elim_inr, ↓wq_f0b, ↓wq_f1b, ↓wq_f2b, ↓wq_r0b, ↓wq_r1b, ↓Option.bind_some, ↓wq_b d1, ↓wq_b l1, wt_eo]
/-- what k digits tell -/
def wt_dv (ch : Nat → Nat) : Nat → Nat → Nat → Nat
  | 0, _, x => x
  | k + 1, j, x => wt_dv ch k (j + 1) (x * 10 + ch j - 48)
theorem wt_dv_lt {ch : Nat → Nat} : ∀ k j x B, x < 10 ^ B → (∀ i, i < k → 48 ≤ ch (j + i) ∧ ch (j + i) ≤ 57) → wt_dv ch k j x < 10 ^ (B + k) := by
  intro k
  induction k with
  | zero => intro j x B hx _; exact hx
  | succ k ih =>
    intro j x B hx h
    have h0 := h 0 (by omega)
    rw [Nat.add_zero] at h0
    rw [wt_dv]
    have e : x * 10 + ch j - 48 < 10 ^ (B + 1) := by
      rw [Nat.pow_succ]
      omega
    have := ih (j + 1) _ (B + 1) e (fun i hi => by
      have := h (i + 1) (by omega)
      rw [show j + (i + 1) = j + 1 + i by omega] at this
      exact this)
    rw [show B + (k + 1) = B + 1 + k by omega]
    exact this
theorem wt_between (hE : E ≤ 1200) (hch : ∀ j, j < E → signs j = Int32.ofNat (ch j) ∧ 32 ≤ ch j ∧ ch j ≤ 126) {N : Nat} {e : Nat} (he : e ≤ E) : ∀ k j M x B, j + k = e → k < M → x < 10 ^ B → B + k ≤ 9 → (∀ i, i < k → 48 ≤ ch (j + i) ∧ ch (j + i) ≤ 57) → xf_wd_digitsBetween_15 (Int32.ofNat E) signs N M (Int32.ofNat e) (Int32.ofNat x) (Int32.ofNat j) = some (Int32.ofNat (wt_dv ch k j x)) := by
  intro k
  induction k with
  | zero =>
    intro j M x B hj hM _ _ _
    obtain ⟨M', rfl⟩ : ∃ M', M = M' + 1 := ⟨M - 1, by omega⟩
    simp (disch := omega) only [↓xf_wd_digitsBetween_15_s, wq_ltT, wq_ltF, wq_inT, wq_clamp, wq_eqF, wq_eqm, wq_meq, wq_add, wq_mul, wq_subT, eq_self, Bool.false_eq_true, ↓reduceIte, Option.bind_some, Sum.elim_inl, Sum.elim_inr, ↓wq_f0b, ↓wq_f1b, ↓wq_f2b, ↓wq_r0b, ↓wq_r1b, ↓Option.bind_some, wt_dv]
  | succ k ih =>
    intro j M x B hj hM hx hB h
    obtain ⟨M', rfl⟩ : ∃ M', M = M' + 1 := ⟨M - 1, by omega⟩
    have h0 := h 0 (by omega)
    rw [Nat.add_zero] at h0
    have e1 := wt_sign hE hch (j := j) (by omega)
    have cj : wt_c ch E j = ch j := if_pos (by omega)
    rw [cj] at e1
    have p8 : 10 ^ B ≤ 10 ^ 8 := Nat.pow_le_pow_right (by omega) (by omega)
    have p8' : (10 : Nat) ^ 8 = 100000000 := by decide
    have ev : x * 10 + ch j - 48 < 10 ^ (B + 1) := by
      rw [Nat.pow_succ]
      omega
    have key := ih (j + 1) M' (x * 10 + ch j - 48) (B + 1) (by omega) (by omega) ev (by omega) (fun i hi => by
      have := h (i + 1) (by omega)
      rw [show j + (i + 1) = j + 1 + i by omega] at this
      exact this)
    rw [wt_dv, ← key, xf_wd_digitsBetween_15_s]
    simp (disch := omega) only [wq_ltT, wq_ltF, wq_inT, wq_clamp, wq_eqF, wq_eqm, wq_meq, wq_add, wq_mul, wq_subT, eq_self, Bool.false_eq_true, ↓reduceIte, Option.bind_some, Sum.elim_inl, Sum.elim_inr, ↓wq_f0b, ↓wq_f1b, ↓wq_f2b, ↓wq_r0b, ↓wq_r1b, ↓Option.bind_some, ↓wq_b e1]
end
