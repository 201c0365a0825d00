/-! PLACE. -/
def wq_pl (z : Nat) (t : Nat → Nat) : Bool := decide (3 < z) && (decide (t 0 = 0) && (decide (t 1 = 0) && (decide (t 2 = 0) && (decide (t 3 = 2) || decide (t 3 = 6)))))
theorem wq_pl_true {z : Nat} {t : Nat → Nat} (h : wq_pl z t = true) : 3 < z ∧ t 0 = 0 ∧ t 1 = 0 ∧ t 2 = 0 ∧ (t 3 = 2 ∨ t 3 = 6) := by
  unfold wq_pl at h
  simp only [Bool.and_eq_true, Bool.or_eq_true, decide_eq_true_eq] at h
  exact h
section
variable {A : wp_A} {L : wp_L} {S : wp_A} {n R u : Nat} {o a z m : Nat → Nat} {t c s : Nat → Nat → Nat}
theorem wi_pl (h : wi_Model A L S n R u o a z m t c s) {N p : Nat} (hN : 41 ≤ N) (hp : p < n) :
    xf_md_isPlaced (A 18) (A 20) N (Int32.ofNat (o p)) = some (Int32.ofNat (if wq_pl (z p) (t p) = true then 1 else 0)) ∧ xf_rf_isPlaced (A 70) (A 71) (Int32.ofNat p) = some (Int32.ofNat (if wq_pl (z p) (t p) = true then 1 else 0)) := by
  have hn := (wi_n h).1
  obtain ⟨r1, _⟩ := wi_row h p hp
  obtain ⟨_, _, _, r4, _⟩ := h.2.1.2.1 p hp
  obtain ⟨r5, r6, r7⟩ := h.1.2.2.2.2.1 p hp
  have ef0 : (fits .boolean (.int (Int32.ofNat 0)) = true) = True := by decide
  have ef1 : (fits .boolean (.int (Int32.ofNat 1)) = true) = True := by decide
  obtain ⟨N', rfl⟩ : ∃ N', N = N' + 1 + 1 + 1 + 1 := ⟨N - 4, by omega⟩
  by_cases hz : 3 < z p
  · have s0 : A 20 (o p * 8) = Int32.ofNat (t p 0) := (h.2.1.2.2.2.1 p 0 hp (by omega)).1
    have s1 := (h.2.1.2.2.2.1 p 1 hp (by omega)).1
    have s2 := (h.2.1.2.2.2.1 p 2 hp (by omega)).1
    have s3 := (h.2.1.2.2.2.1 p 3 hp (by omega)).1
    have q0 : A 71 (8 * p) = Int32.ofNat (t p 0) := (h.1.2.2.2.2.2 p 0 hp (by omega)).1
    have q1 := (h.1.2.2.2.2.2 p 1 hp (by omega)).1
    have q2 := (h.1.2.2.2.2.2 p 2 hp (by omega)).1
    have q3 := (h.1.2.2.2.2.2 p 3 hp (by omega)).1
    have t0 := (h.1.2.2.2.2.2 p 0 hp (by omega)).2.1
    have t1 := (h.1.2.2.2.2.2 p 1 hp (by omega)).2.1
    have t2 := (h.1.2.2.2.2.2 p 2 hp (by omega)).2.1
    have t3 := (h.1.2.2.2.2.2 p 3 hp (by omega)).2.1
    unfold wq_pl
    by_cases b0 : t p 0 = 0
    · by_cases b1 : t p 1 = 0
      · by_cases b2 : t p 2 = 0
        · by_cases b3 : t p 3 = 2
          · refine ⟨?_, ?_⟩
            · simp (disch := omega) only [↓xf_md_isPlaced_73_s, ↓xf_md_isPlaced_68_s, ↓xf_md_isPlaced_19_s, ↓xf_md_isPlaced_s, wq_ltT, wq_ltF, wq_inT, wq_clamp, wq_eqF, wq_eqm, wq_meq, wq_add, wq_mul, wq_subT, eq_self, Bool.false_eq_true, ↓reduceIte, Option.bind_some, Sum.elim_inl, Sum.elim_inr, ↓wq_f0b, ↓wq_f1b, ↓wq_f2b, ↓wq_r0b, ↓wq_r1b, ↓Option.bind_some, Nat.reduceAdd, Nat.add_zero, Nat.zero_add, r4, s0, s1, s2, s3, b0, b1, b2, b3, ef1, hz, decide_true, Bool.and_self, Bool.true_or]
            · simp (disch := omega) only [↓xf_rf_isPlaced_76_s, ↓xf_rf_isPlaced_71_s, ↓xf_rf_isPlaced_75_s, ↓xf_rf_isPlaced_s, wq_ltT, wq_ltF, wq_inT, wq_clamp, wq_eqF, wq_eqm, wq_meq, wq_add, wq_mul, wq_subT, eq_self, Bool.false_eq_true, ↓reduceIte, Option.bind_some, Sum.elim_inl, Sum.elim_inr, ↓wq_f0b, ↓wq_f1b, ↓wq_f2b, ↓wq_r0b, ↓wq_r1b, ↓Option.bind_some, r5, q0, q1, q2, q3, b0, b1, b2, b3, ef1, hz, decide_true, Bool.and_self, Bool.true_or]
          · by_cases b4 : t p 3 = 6
            · refine ⟨?_, ?_⟩
              · simp (disch := omega) only [↓xf_md_isPlaced_73_s, ↓xf_md_isPlaced_68_s, ↓xf_md_isPlaced_19_s, ↓xf_md_isPlaced_s, wq_ltT, wq_ltF, wq_inT, wq_clamp, wq_eqF, wq_eqm, wq_meq, wq_add, wq_mul, wq_subT, eq_self, Bool.false_eq_true, ↓reduceIte, Option.bind_some, Sum.elim_inl, Sum.elim_inr, ↓wq_f0b, ↓wq_f1b, ↓wq_f2b, ↓wq_r0b, ↓wq_r1b, ↓Option.bind_some, Nat.reduceAdd, Nat.add_zero, Nat.zero_add, r4, s0, s1, s2, s3, b0, b1, b2, b4, ef1, hz, decide_true, Bool.and_self, Bool.or_true]
              · simp (disch := omega) only [↓xf_rf_isPlaced_76_s, ↓xf_rf_isPlaced_71_s, ↓xf_rf_isPlaced_75_s, ↓xf_rf_isPlaced_s, wq_ltT, wq_ltF, wq_inT, wq_clamp, wq_eqF, wq_eqm, wq_meq, wq_add, wq_mul, wq_subT, eq_self, Bool.false_eq_true, ↓reduceIte, Option.bind_some, Sum.elim_inl, Sum.elim_inr, ↓wq_f0b, ↓wq_f1b, ↓wq_f2b, ↓wq_r0b, ↓wq_r1b, ↓Option.bind_some, r5, q0, q1, q2, q3, b0, b1, b2, b4, ef1, hz, decide_true, Bool.and_self, Bool.or_true]
            · refine ⟨?_, ?_⟩
              · simp (disch := omega) only [↓xf_md_isPlaced_73_s, ↓xf_md_isPlaced_68_s, ↓xf_md_isPlaced_19_s, ↓xf_md_isPlaced_s, wq_ltT, wq_ltF, wq_inT, wq_clamp, wq_eqF, wq_eqm, wq_meq, wq_add, wq_mul, wq_subT, eq_self, Bool.false_eq_true, ↓reduceIte, Option.bind_some, Sum.elim_inl, Sum.elim_inr, ↓wq_f0b, ↓wq_f1b, ↓wq_f2b, ↓wq_r0b, ↓wq_r1b, ↓Option.bind_some, Nat.reduceAdd, Nat.add_zero, Nat.zero_add, r4, s0, s1, s2, s3, b0, b1, b2, b3, b4, ef0, hz, decide_true, decide_false, Bool.and_self, Bool.or_self, Bool.and_false, Bool.false_eq_true]
              · simp (disch := omega) only [↓xf_rf_isPlaced_76_s, ↓xf_rf_isPlaced_71_s, ↓xf_rf_isPlaced_75_s, ↓xf_rf_isPlaced_s, wq_ltT, wq_ltF, wq_inT, wq_clamp, wq_eqF, wq_eqm, wq_meq, wq_add, wq_mul, wq_subT, eq_self, Bool.false_eq_true, ↓reduceIte, Option.bind_some, Sum.elim_inl, Sum.elim_inr, ↓wq_f0b, ↓wq_f1b, ↓wq_f2b, ↓wq_r0b, ↓wq_r1b, ↓Option.bind_some, r5, q0, q1, q2, q3, b0, b1, b2, b3, b4, ef0, hz, decide_true, decide_false, Bool.and_self, Bool.or_self, Bool.and_false, Bool.false_eq_true]
        · refine ⟨?_, ?_⟩
          · simp (disch := omega) only [↓xf_md_isPlaced_73_s, ↓xf_md_isPlaced_68_s, ↓xf_md_isPlaced_19_s, ↓xf_md_isPlaced_s, wq_ltT, wq_ltF, wq_inT, wq_clamp, wq_eqF, wq_eqm, wq_meq, wq_add, wq_mul, wq_subT, eq_self, Bool.false_eq_true, ↓reduceIte, Option.bind_some, Sum.elim_inl, Sum.elim_inr, ↓wq_f0b, ↓wq_f1b, ↓wq_f2b, ↓wq_r0b, ↓wq_r1b, ↓Option.bind_some, Nat.reduceAdd, Nat.add_zero, Nat.zero_add, r4, s0, s1, s2, b0, b1, b2, ef0, hz, decide_true, decide_false, Bool.and_false, Bool.false_and, Bool.false_eq_true]
          · simp (disch := omega) only [↓xf_rf_isPlaced_76_s, ↓xf_rf_isPlaced_71_s, ↓xf_rf_isPlaced_75_s, ↓xf_rf_isPlaced_s, wq_ltT, wq_ltF, wq_inT, wq_clamp, wq_eqF, wq_eqm, wq_meq, wq_add, wq_mul, wq_subT, eq_self, Bool.false_eq_true, ↓reduceIte, Option.bind_some, Sum.elim_inl, Sum.elim_inr, ↓wq_f0b, ↓wq_f1b, ↓wq_f2b, ↓wq_r0b, ↓wq_r1b, ↓Option.bind_some, r5, q0, q1, q2, b0, b1, b2, ef0, hz, decide_true, decide_false, Bool.and_false, Bool.false_and, Bool.false_eq_true]
      · refine ⟨?_, ?_⟩
        · simp (disch := omega) only [↓xf_md_isPlaced_73_s, ↓xf_md_isPlaced_68_s, ↓xf_md_isPlaced_19_s, ↓xf_md_isPlaced_s, wq_ltT, wq_ltF, wq_inT, wq_clamp, wq_eqF, wq_eqm, wq_meq, wq_add, wq_mul, wq_subT, eq_self, Bool.false_eq_true, ↓reduceIte, Option.bind_some, Sum.elim_inl, Sum.elim_inr, ↓wq_f0b, ↓wq_f1b, ↓wq_f2b, ↓wq_r0b, ↓wq_r1b, ↓Option.bind_some, Nat.reduceAdd, Nat.add_zero, Nat.zero_add, r4, s0, s1, b0, b1, ef0, hz, decide_true, decide_false, Bool.and_false, Bool.false_and, Bool.false_eq_true]
        · simp (disch := omega) only [↓xf_rf_isPlaced_76_s, ↓xf_rf_isPlaced_71_s, ↓xf_rf_isPlaced_75_s, ↓xf_rf_isPlaced_s, wq_ltT, wq_ltF, wq_inT, wq_clamp, wq_eqF, wq_eqm, wq_meq, wq_add, wq_mul, wq_subT, eq_self, Bool.false_eq_true, ↓reduceIte, Option.bind_some, Sum.elim_inl, Sum.elim_inr, ↓wq_f0b, ↓wq_f1b, ↓wq_f2b, ↓wq_r0b, ↓wq_r1b, ↓Option.bind_some, r5, q0, q1, b0, b1, ef0, hz, decide_true, decide_false, Bool.and_false, Bool.false_and, Bool.false_eq_true]
    · refine ⟨?_, ?_⟩
      · simp (disch := omega) only [↓xf_md_isPlaced_73_s, ↓xf_md_isPlaced_68_s, ↓xf_md_isPlaced_19_s, ↓xf_md_isPlaced_s, wq_ltT, wq_ltF, wq_inT, wq_clamp, wq_eqF, wq_eqm, wq_meq, wq_add, wq_mul, wq_subT, eq_self, Bool.false_eq_true, ↓reduceIte, Option.bind_some, Sum.elim_inl, Sum.elim_inr, ↓wq_f0b, ↓wq_f1b, ↓wq_f2b, ↓wq_r0b, ↓wq_r1b, ↓Option.bind_some, Nat.reduceAdd, Nat.add_zero, Nat.zero_add, r4, s0, b0, ef0, hz, decide_true, decide_false, Bool.and_false, Bool.false_and, Bool.false_eq_true]
      · simp (disch := omega) only [↓xf_rf_isPlaced_76_s, ↓xf_rf_isPlaced_71_s, ↓xf_rf_isPlaced_75_s, ↓xf_rf_isPlaced_s, wq_ltT, wq_ltF, wq_inT, wq_clamp, wq_eqF, wq_eqm, wq_meq, wq_add, wq_mul, wq_subT, eq_self, Bool.false_eq_true, ↓reduceIte, Option.bind_some, Sum.elim_inl, Sum.elim_inr, ↓wq_f0b, ↓wq_f1b, ↓wq_f2b, ↓wq_r0b, ↓wq_r1b, ↓Option.bind_some, r5, q0, b0, ef0, hz, decide_true, decide_false, Bool.and_false, Bool.false_and, Bool.false_eq_true]
  · unfold wq_pl
    refine ⟨?_, ?_⟩
    · simp (disch := omega) only [xf_md_isPlaced_s, wq_ltT, wq_ltF, wq_inT, wq_clamp, wq_eqF, wq_eqm, wq_meq, wq_add, wq_mul, wq_subT, eq_self, Bool.false_eq_true, ↓reduceIte, Option.bind_some, Sum.elim_inl, Sum.elim_inr, ↓wq_f0b, ↓wq_f1b, ↓wq_f2b, ↓wq_r0b, ↓wq_r1b, ↓Option.bind_some, r4, hz, decide_false, Bool.false_and, Bool.false_eq_true]
    · simp (disch := omega) only [↓xf_rf_isPlaced_76_s, ↓xf_rf_isPlaced_71_s, ↓xf_rf_isPlaced_75_s, ↓xf_rf_isPlaced_s, wq_ltT, wq_ltF, wq_inT, wq_clamp, wq_eqF, wq_eqm, wq_meq, wq_add, wq_mul, wq_subT, eq_self, Bool.false_eq_true, ↓reduceIte, Option.bind_some, Sum.elim_inl, Sum.elim_inr, ↓wq_f0b, ↓wq_f1b, ↓wq_f2b, ↓wq_r0b, ↓wq_r1b, ↓Option.bind_some, r5, hz, ef0, decide_false, Bool.false_and, Bool.false_eq_true]
end
/-- the placed line that a placed line's place is told from -/
def wq_nx (a z : Nat → Nat) (n : Nat) (t : Nat → Nat → Nat) (values : Nat → Int32) (p : Nat) : Option Nat := if t p 3 = 2 then (match wq_fx a n (values (8 * p + 3)) with
  | none => none
  | some q => if wq_pl (z q) (t q) = true then some q else none) else none
theorem wq_pigeon : ∀ (n : Nat) (f : Nat → Nat), (∀ i, i ≤ n → f i < n) → ∃ i j, i < j ∧ j ≤ n ∧ f i = f j := by
  intro n
  induction n with
  | zero => intro f h; exact absurd (h 0 (Nat.le_refl 0)) (by omega)
  | succ n ih =>
    intro f h
    by_cases h1 : ∃ i, i ≤ n ∧ f i = f (n + 1)
    · obtain ⟨i, h2, h3⟩ := h1
      exact ⟨i, n + 1, by omega, by omega, h3⟩
    · have h4 : ∀ i, i ≤ n → f i ≠ f (n + 1) := fun i hi he => h1 ⟨i, hi, he⟩
      have h5 := h (n + 1) (by omega)
      obtain ⟨i, j, g1, g2, g3⟩ := ih (fun i => if f i = n then f (n + 1) else f i) (fun i hi => by
        have h6 := h i (by omega)
        have h7 := h4 i hi
        show (if f i = n then f (n + 1) else f i) < n
        by_cases e : f i = n
        · rw [if_pos e]
          omega
        · rw [if_neg e]
          omega)
      have h8 := h4 i (by omega)
      have h9 := h4 j (by omega)
      refine ⟨i, j, g1, by omega, ?_⟩
      have g4 : (if f i = n then f (n + 1) else f i) = (if f j = n then f (n + 1) else f j) := g3
      by_cases e1 : f i = n
      · by_cases e2 : f j = n
        · omega
        · rw [if_pos e1, if_neg e2] at g4
          omega
      · by_cases e2 : f j = n
        · rw [if_neg e1, if_pos e2] at g4
          omega
        · rw [if_neg e1, if_neg e2] at g4
          exact g4
/-- a way of n steps among n places never ends -/
theorem wq_round {n : Nat} {nx : Nat → Option Nat} (f : Nat → Nat) (h1 : ∀ i, i ≤ n → f i < n) (h2 : ∀ i, i < n → nx (f i) = some (f (i + 1))) : ∃ q, nx (f n) = some q := by
  obtain ⟨i, j, g1, g2, g3⟩ := wq_pigeon n f h1
  have h3 : ∀ k, j + k ≤ n → f (i + k) = f (j + k) := by
    intro k
    induction k with
    | zero => intro _; exact g3
    | succ k ih =>
      intro hk
      have e1 := ih (by omega)
      have e2 := h2 (i + k) (by omega)
      have e3 := h2 (j + k) (by omega)
      rw [e1, e3] at e2
      exact (Option.some.inj e2).symm
  have e4 := h3 (n - j) (by omega)
  rw [show j + (n - j) = n by omega] at e4
  exact ⟨_, by rw [← e4]; exact h2 (i + (n - j)) (by omega)⟩
section
variable {A : wp_A} {L : wp_L} {S : wp_A} {n R u : Nat} {o a z m : Nat → Nat} {t c s : Nat → Nat → Nat}
theorem wi_nx (h : wi_Model A L S n R u o a z m t c s) {N p : Nat} (hN : 41 ≤ N) (hp : p < n) (hz : 3 < z p) (h3 : t p 3 = 2 ∨ t p 3 = 6) :
    xf_md_nextPlaced (S 15 1) (A 16) (A 19) (A 18) (A 20) (A 21) N (Int32.ofNat (o p)) = some (wq_or o (wq_nx a z n t (A 72) p)) := by
  have hn := (wi_n h).1
  obtain ⟨r1, _⟩ := wi_row h p hp
  obtain ⟨s3, s4, _⟩ := h.2.1.2.2.2.1 p 3 hp hz
  unfold wq_nx
  rcases h3 with h3 | h3
  · rw [if_pos h3]
    have e := wi_rowOf h hN (A 72 (8 * p + 3))
    cases hf : wq_fx a n (A 72 (8 * p + 3)) with
    | none =>
      rw [hf] at e
      simp (disch := omega) only [↓xf_md_nextPlaced_48_s, ↓xf_md_nextPlaced_47_s, ↓xf_md_nextPlaced_s, wq_ltT, wq_ltF, wq_inT, wq_clamp, wq_eqF, wq_eqm, wq_meq, wq_add, wq_mul, wq_subT, eq_self, Bool.false_eq_true, ↓reduceIte, Option.bind_some, Sum.elim_inl, Sum.elim_inr, ↓wq_f0b, ↓wq_f1b, ↓wq_f2b, ↓wq_r0b, ↓wq_r1b, ↓Option.bind_some, s3, h3, s4, e, wq_or]
    | some q =>
      rw [hf] at e
      obtain ⟨hq, _⟩ := wq_fx_some hf
      obtain ⟨r2, _⟩ := wi_row h q hq
      have e2 := (wi_pl h hN hq).1
      by_cases hb : wq_pl (z q) (t q) = true
      · rw [if_pos hb] at e2
        simp (disch := omega) only [↓xf_md_nextPlaced_48_s, ↓xf_md_nextPlaced_47_s, ↓xf_md_nextPlaced_s, wq_ltT, wq_ltF, wq_inT, wq_clamp, wq_eqF, wq_eqm, wq_meq, wq_add, wq_mul, wq_subT, eq_self, Bool.false_eq_true, ↓reduceIte, Option.bind_some, Sum.elim_inl, Sum.elim_inr, ↓wq_f0b, ↓wq_f1b, ↓wq_f2b, ↓wq_r0b, ↓wq_r1b, ↓Option.bind_some, s3, h3, s4, e, e2, hb, wq_or]
      · rw [if_neg hb] at e2
        simp (disch := omega) only [↓xf_md_nextPlaced_48_s, ↓xf_md_nextPlaced_47_s, ↓xf_md_nextPlaced_s, wq_ltT, wq_ltF, wq_inT, wq_clamp, wq_eqF, wq_eqm, wq_meq, wq_add, wq_mul, wq_subT, eq_self, Bool.false_eq_true, ↓reduceIte, Option.bind_some, Sum.elim_inl, Sum.elim_inr, ↓wq_f0b, ↓wq_f1b, ↓wq_f2b, ↓wq_r0b, ↓wq_r1b, ↓Option.bind_some, s3, h3, s4, e, e2, hb, wq_or]
  · have h4 : ¬ t p 3 = 2 := by omega
    rw [if_neg h4]
    simp (disch := omega) only [↓xf_md_nextPlaced_48_s, ↓xf_md_nextPlaced_47_s, ↓xf_md_nextPlaced_s, wq_ltT, wq_ltF, wq_inT, wq_clamp, wq_eqF, wq_eqm, wq_meq, wq_add, wq_mul, wq_subT, eq_self, Bool.false_eq_true, ↓reduceIte, Option.bind_some, Sum.elim_inl, Sum.elim_inr, ↓wq_f0b, ↓wq_f1b, ↓wq_f2b, ↓wq_r0b, ↓wq_r1b, ↓Option.bind_some, s3, h3, wq_or]
theorem wq_nx_some {values : Nat → Int32} {p q : Nat} (h : wq_nx a z n t values p = some q) : q < n ∧ wq_pl (z q) (t q) = true := by
  unfold wq_nx at h
  by_cases h3 : t p 3 = 2
  · rw [if_pos h3] at h
    cases hf : wq_fx a n (values (8 * p + 3)) with
    | none =>
      rw [hf] at h
      exact absurd h (by simp)
    | some r =>
      rw [hf] at h
      have h' : (if wq_pl (z r) (t r) = true then some r else none) = some q := h
      by_cases hb : wq_pl (z r) (t r) = true
      · rw [if_pos hb] at h'
        have e := Option.some.inj h'
        subst e
        exact ⟨(wq_fx_some hf).1, hb⟩
      · rw [if_neg hb] at h'
        exact absurd h' (by simp)
  · rw [if_neg h3] at h
    exact absurd h (by simp)
/-- one step of the reference -/
theorem wi_rstep (h : wi_Model A L S n R u o a z m t c s) {N p x i : Nat} (hN : 41 ≤ N) (hp : p < n) (hz : 3 < z p) (h3 : t p 3 = 2 ∨ t p 3 = 6) (hx : x < 3) (hi : i ≤ n) (M : Nat) (th : Int32) (v : Int64) :
    xf_rf_place_68 (A 66) (A 67) (A 70) (A 71) (A 72) N (M + 1) th (Int32.ofNat x) (Int32.ofNat p) v (Int32.ofNat i) = xf_rf_place_68 (A 66) (A 67) (A 70) (A 71) (A 72) N M th (Int32.ofNat x) (wq_or (fun q => q) (wq_nx a z n t (A 72) p)) (v + (A 72 (8 * p + x)).toInt64) (Int32.ofNat (i + 1)) := by
  obtain ⟨hn, _, hn3⟩ := wi_n h
  have q3 := (h.1.2.2.2.2.2 p 3 hp hz).1
  unfold wq_nx
  rcases h3 with h3 | h3
  · rw [if_pos h3]
    have e := wi_find h hN (A 72 (8 * p + 3))
    cases hf : wq_fx a n (A 72 (8 * p + 3)) with
    | none =>
      rw [hf] at e
      simp (disch := omega) only [xf_rf_place_68_s, xf_rf_place_143_s, xf_rf_place_165_s, xf_rf_place_166_s, wq_ltT, wq_ltF, wq_inT, wq_clamp, wq_eqF, wq_eqm, wq_meq, wq_add, wq_mul, wq_subT, eq_self, Bool.false_eq_true, ↓reduceIte, Option.bind_some, Sum.elim_inl, Sum.elim_inr, ↓wq_f0b, ↓wq_f1b, ↓wq_f2b, ↓wq_r0b, ↓wq_r1b, ↓Option.bind_some, hn3, q3, h3, e, wq_or]
    | some q =>
      rw [hf] at e
      obtain ⟨hq, _⟩ := wq_fx_some hf
      have e2 := (wi_pl h hN hq).2
      by_cases hb : wq_pl (z q) (t q) = true
      · rw [if_pos hb] at e2
        simp (disch := omega) only [xf_rf_place_68_s, xf_rf_place_143_s, xf_rf_place_165_s, xf_rf_place_166_s, wq_ltT, wq_ltF, wq_inT, wq_clamp, wq_eqF, wq_eqm, wq_meq, wq_add, wq_mul, wq_subT, eq_self, Bool.false_eq_true, ↓reduceIte, Option.bind_some, Sum.elim_inl, Sum.elim_inr, ↓wq_f0b, ↓wq_f1b, ↓wq_f2b, ↓wq_r0b, ↓wq_r1b, ↓Option.bind_some, hn3, q3, h3, e, e2, hb, wq_or]
      · rw [if_neg hb] at e2
        simp (disch := omega) only [xf_rf_place_68_s, xf_rf_place_143_s, xf_rf_place_165_s, xf_rf_place_166_s, wq_ltT, wq_ltF, wq_inT, wq_clamp, wq_eqF, wq_eqm, wq_meq, wq_add, wq_mul, wq_subT, eq_self, Bool.false_eq_true, ↓reduceIte, Option.bind_some, Sum.elim_inl, Sum.elim_inr, ↓wq_f0b, ↓wq_f1b, ↓wq_f2b, ↓wq_r0b, ↓wq_r1b, ↓Option.bind_some, hn3, q3, h3, e, e2, hb, wq_or]
  · have h4 : ¬ t p 3 = 2 := by omega
    rw [if_neg h4]
    simp (disch := omega) only [xf_rf_place_68_s, xf_rf_place_143_s, xf_rf_place_165_s, xf_rf_place_166_s, wq_ltT, wq_ltF, wq_inT, wq_clamp, wq_eqF, wq_eqm, wq_meq, wq_add, wq_mul, wq_subT, eq_self, Bool.false_eq_true, ↓reduceIte, Option.bind_some, Sum.elim_inl, Sum.elim_inr, ↓wq_f0b, ↓wq_f1b, ↓wq_f2b, ↓wq_r0b, ↓wq_r1b, ↓Option.bind_some, hn3, q3, h3, wq_or]
theorem wi_walk (h : wi_Model A L S n R u o a z m t c s) {N x : Nat} (hN : 41 ≤ N) (hx : x < 3) (th : Int32) : ∀ k i M M' (v : Int64) (f : Nat → Nat), i + k = n → k < M → k + 3 < M' → (∀ j, j ≤ i → f j < n ∧ wq_pl (z (f j)) (t (f j)) = true) → (∀ j, j < i → wq_nx a z n t (A 72) (f j) = some (f (j + 1))) →
    ∃ r, xf_xt_place_40 (S 15 1) (A 16) (A 19) (A 18) (A 20) (A 21) N M (Int32.ofNat x) (Int32.ofNat (o (f i))) v (Int32.ofNat i) = some (.inl r) ∧ xf_rf_place_68 (A 66) (A 67) (A 70) (A 71) (A 72) N M' th (Int32.ofNat x) (Int32.ofNat (f i)) v (Int32.ofNat i) = some (r, th) := by
  obtain ⟨hn, hn2, hn3⟩ := wi_n h
  intro k
  induction k with
  | zero =>
    intro i M M' v f hi hM hM' hf hg
    have e : i = n := by omega
    subst e
    obtain ⟨M1, rfl⟩ : ∃ M1, M = M1 + 1 := ⟨M - 1, by omega⟩
    obtain ⟨M2, rfl⟩ : ∃ M2, M' = M2 + 1 + 1 := ⟨M' - 2, by omega⟩
    obtain ⟨q, hq⟩ := wq_round (nx := wq_nx a z i t (A 72)) f (fun j hj => (hf j hj).1) hg
    obtain ⟨f1, f2⟩ := hf i (Nat.le_refl i)
    obtain ⟨p1, _, _, _, p5⟩ := wq_pl_true f2
    obtain ⟨q1, _⟩ := wq_nx_some hq
    refine ⟨1000000000000, ?_, ?_⟩
    · simp (disch := omega) only [xf_xt_place_40_s, wq_ltT, wq_ltF, wq_inT, wq_clamp, wq_eqF, wq_eqm, wq_meq, wq_add, wq_mul, wq_subT, eq_self, Bool.false_eq_true, ↓reduceIte, Option.bind_some, Sum.elim_inl, Sum.elim_inr, ↓wq_f0b, ↓wq_f1b, ↓wq_f2b, ↓wq_r0b, ↓wq_r1b, ↓Option.bind_some, hn2]
    · rw [wi_rstep h hN f1 p1 p5 hx (Nat.le_refl i), hq]
      simp (disch := omega) only [xf_rf_place_68_s, wq_ltT, wq_ltF, wq_inT, wq_clamp, wq_eqF, wq_eqm, wq_meq, wq_add, wq_mul, wq_subT, eq_self, Bool.false_eq_true, ↓reduceIte, Option.bind_some, Sum.elim_inl, Sum.elim_inr, ↓wq_f0b, ↓wq_f1b, ↓wq_f2b, ↓wq_r0b, ↓wq_r1b, ↓Option.bind_some, hn3, wq_or]
  | succ k ih =>
    intro i M M' v f hi hM hM' hf hg
    obtain ⟨M1, rfl⟩ : ∃ M1, M = M1 + 1 := ⟨M - 1, by omega⟩
    obtain ⟨M2, rfl⟩ : ∃ M2, M' = M2 + 1 + 1 := ⟨M' - 2, by omega⟩
    obtain ⟨f1, f2⟩ := hf i (Nat.le_refl i)
    obtain ⟨p1, _, _, _, p5⟩ := wq_pl_true f2
    obtain ⟨r1, _⟩ := wi_row h (f i) f1
    have e := wi_nx h hN f1 p1 p5
    have g3 := (h.2.1.2.2.2.1 (f i) x f1 (by omega)).2.1
    rw [wi_rstep h hN f1 p1 p5 hx (by omega)]
    cases hq : wq_nx a z n t (A 72) (f i) with
    | none =>
      rw [hq] at e
      refine ⟨v + (A 72 (8 * f i + x)).toInt64, ?_, ?_⟩
      · simp (disch := omega) only [xf_xt_place_40_s, wq_ltT, wq_ltF, wq_inT, wq_clamp, wq_eqF, wq_eqm, wq_meq, wq_add, wq_mul, wq_subT, eq_self, Bool.false_eq_true, ↓reduceIte, Option.bind_some, Sum.elim_inl, Sum.elim_inr, ↓wq_f0b, ↓wq_f1b, ↓wq_f2b, ↓wq_r0b, ↓wq_r1b, ↓Option.bind_some, hn2, e, wq_or, g3]
        rw [← hn2]
        simp (disch := omega) only [e, wq_or, wq_ltT, wq_ltF, wq_inT, wq_clamp, wq_eqF, wq_eqm, wq_meq, wq_add, wq_mul, wq_subT, eq_self, Bool.false_eq_true, ↓reduceIte, Option.bind_some, Sum.elim_inl, Sum.elim_inr, ↓wq_f0b, ↓wq_f1b, ↓wq_f2b, ↓wq_r0b, ↓wq_r1b, ↓Option.bind_some]
      · simp (disch := omega) only [xf_rf_place_68_s, wq_ltT, wq_ltF, wq_inT, wq_clamp, wq_eqF, wq_eqm, wq_meq, wq_add, wq_mul, wq_subT, eq_self, Bool.false_eq_true, ↓reduceIte, Option.bind_some, Sum.elim_inl, Sum.elim_inr, ↓wq_f0b, ↓wq_f1b, ↓wq_f2b, ↓wq_r0b, ↓wq_r1b, ↓Option.bind_some, wq_or]
    | some q =>
      rw [hq] at e
      obtain ⟨q1, q2⟩ := wq_nx_some hq
      obtain ⟨r2, _⟩ := wi_row h q q1
      have key := ih (i + 1) M1 (M2 + 1) (v + (A 72 (8 * f i + x)).toInt64) (fun j => if j = i + 1 then q else f j) (by omega) (by omega) (by omega)
        (fun j hj => by
          show (if j = i + 1 then q else f j) < n ∧ wq_pl (z (if j = i + 1 then q else f j)) (t (if j = i + 1 then q else f j)) = true
          by_cases ej : j = i + 1
          · rw [if_pos ej]
            exact ⟨q1, q2⟩
          · rw [if_neg ej]
            exact hf j (by omega))
        (fun j hj => by
          show wq_nx a z n t (A 72) (if j = i + 1 then q else f j) = some (if j + 1 = i + 1 then q else f (j + 1))
          rw [if_neg (by omega : ¬ j = i + 1)]
          by_cases ej : j = i
          · rw [ej, if_pos rfl]
            exact hq
          · rw [if_neg (by omega : ¬ j + 1 = i + 1)]
            exact hg j (by omega))
      obtain ⟨r, k1, k2⟩ := key
      rw [if_pos rfl] at k1 k2
      refine ⟨r, ?_, k2⟩
      rw [← k1]
      rw [xf_xt_place_40_s, hn2]
      rw [hn2] at e
      simp (disch := omega) only [wq_ltT, wq_ltF, wq_inT, wq_clamp, wq_eqF, wq_eqm, wq_meq, wq_add, wq_mul, wq_subT, eq_self, Bool.false_eq_true, ↓reduceIte, Option.bind_some, Sum.elim_inl, Sum.elim_inr, ↓wq_f0b, ↓wq_f1b, ↓wq_f2b, ↓wq_r0b, ↓wq_r1b, ↓Option.bind_some, e, wq_or, g3]
end
theorem wc_15 {sc : Nat × (Nat → Int32)} {N : Nat} (hN : 60 ≤ N) : wp_Ok sc wi_I (xf_law_15 sc N) := by
  apply wp_red_15
  intro A L S x y hI
  obtain ⟨_, _, ⟨n, R, u, o, a, z, m, t, c, s, hm⟩, _⟩ := id hI
  have e1 := wi_rowOf hm (N := N) (by omega) x
  have e2 := wi_find hm (N := N) (by omega) x
  obtain ⟨hn, hn2, hn3⟩ := wi_n hm
  cases hf : wq_fx a n x with
  | none =>
    rw [hf] at e1 e2
    have h1 : xf_la_place (S 15 1) (A 16) (A 19) (A 18) (A 20) (A 21) 1 N (L 77) x y = some (Int32.ofNat 1, L 77) := by
      simp (disch := omega) only [↓xf_la_place_s, xf_xt_place_s, ↓xf_xt_rowOrRefuse_19_s, ↓xf_xt_rowOrRefuse_s, ↓xf_xt_refuseUnless_s, e1, wq_or, wq_ltT, wq_ltF, wq_inT, wq_clamp, wq_eqF, wq_eqm, wq_meq, wq_add, wq_mul, wq_subT, eq_self, Bool.false_eq_true, ↓reduceIte, Option.bind_some, Sum.elim_inl, Sum.elim_inr, ↓wq_f0b, ↓wq_f1b, ↓wq_f2b, ↓wq_r0b, ↓wq_r1b, ↓Option.bind_some]
    have h2 : xf_rf_place (A 66) (A 67) (A 70) (A 71) (A 72) N (S 57 0) x y = some (0, Int32.ofNat 1) := by
      simp (disch := omega) only [xf_rf_place_s, xf_rf_place_27_s, xf_rf_place_32_s, xf_rf_place_60_s, e2, wq_or, wq_f1, wq_ltT, wq_ltF, wq_inT, wq_clamp, wq_eqF, wq_eqm, wq_meq, wq_add, wq_mul, wq_subT, eq_self, Bool.false_eq_true, ↓reduceIte, Option.bind_some, Sum.elim_inl, Sum.elim_inr, ↓wq_f0b, ↓wq_f1b, ↓wq_f2b, ↓wq_r0b, ↓wq_r1b, ↓Option.bind_some]
    exact ⟨_, _, h1, h2, ⟨rfl, fun h => absurd h wq_ne1⟩, wi_out hI⟩
  | some p =>
    rw [hf] at e1 e2
    obtain ⟨hp, _⟩ := wq_fx_some hf
    obtain ⟨r1, _⟩ := wi_row hm p hp
    rcases wq_sgn y with hy | ⟨k, hk, rfl⟩
    · have h1 : xf_la_place (S 15 1) (A 16) (A 19) (A 18) (A 20) (A 21) 1 N (L 77) x y = some (Int32.ofNat 1, L 77) := by
        simp (disch := omega) only [↓xf_la_place_s, xf_xt_place_s, xf_xt_place_19_s, xf_xt_place_20_s, ↓xf_xt_rowOrRefuse_19_s, ↓xf_xt_rowOrRefuse_s, ↓xf_xt_refuseUnless_s, e1, wq_or, wq_ltT, wq_ltF, wq_inT, wq_clamp, wq_eqF, wq_eqm, wq_meq, wq_add, wq_mul, wq_subT, eq_self, Bool.false_eq_true, ↓reduceIte, Option.bind_some, Sum.elim_inl, Sum.elim_inr, ↓wq_f0b, ↓wq_f1b, ↓wq_f2b, ↓wq_r0b, ↓wq_r1b, ↓Option.bind_some, hy]
      have h2 : xf_rf_place (A 66) (A 67) (A 70) (A 71) (A 72) N (S 57 0) x y = some (0, Int32.ofNat 1) := by
        simp (disch := omega) only [xf_rf_place_s, xf_rf_place_27_s, xf_rf_place_32_s, xf_rf_place_60_s, e2, wq_or, wq_f1, wq_ltT, wq_ltF, wq_inT, wq_clamp, wq_eqF, wq_eqm, wq_meq, wq_add, wq_mul, wq_subT, eq_self, Bool.false_eq_true, ↓reduceIte, Option.bind_some, Sum.elim_inl, Sum.elim_inr, ↓wq_f0b, ↓wq_f1b, ↓wq_f2b, ↓wq_r0b, ↓wq_r1b, ↓Option.bind_some, hy]
      exact ⟨_, _, h1, h2, ⟨rfl, fun h => absurd h wq_ne1⟩, wi_out hI⟩
    · by_cases h3 : k < 3
      · obtain ⟨i1, i2⟩ := wi_pl hm (N := N) (by omega) hp
        by_cases hb : wq_pl (z p) (t p) = true
        · rw [if_pos hb] at i1 i2
          obtain ⟨r, w1, w2⟩ := wi_walk hm (N := N) (by omega) h3 (Int32.ofNat 0) n 0 N N 0 (fun _ => p) (by omega) (by omega) (by omega) (fun j _ => ⟨hp, hb⟩) (fun j hj => absurd hj (by omega))
          have h1 : xf_la_place (S 15 1) (A 16) (A 19) (A 18) (A 20) (A 21) 1 N (L 77) x (Int32.ofNat k) = some (Int32.ofNat 0, vp_updL (L 77) 0 r) := by
            simp (disch := omega) only [↓xf_la_place_s, xf_xt_place_s, xf_xt_place_19_s, xf_xt_place_20_s, ↓xf_xt_rowOrRefuse_19_s, ↓xf_xt_rowOrRefuse_s, ↓xf_xt_refuseUnless_s, e1, wq_or, wq_ltT, wq_ltF, wq_inT, wq_clamp, wq_eqF, wq_eqm, wq_meq, wq_add, wq_mul, wq_subT, eq_self, Bool.false_eq_true, ↓reduceIte, Option.bind_some, Sum.elim_inl, Sum.elim_inr, ↓wq_f0b, ↓wq_f1b, ↓wq_f2b, ↓wq_r0b, ↓wq_r1b, ↓Option.bind_some, i1, w1]
          have h2 : xf_rf_place (A 66) (A 67) (A 70) (A 71) (A 72) N (S 57 0) x (Int32.ofNat k) = some (r, Int32.ofNat 0) := by
            simp (disch := omega) only [xf_rf_place_s, xf_rf_place_27_s, xf_rf_place_32_s, xf_rf_place_53_s, xf_rf_place_60_s, e2, wq_or, wq_f0, wq_ltT, wq_ltF, wq_inT, wq_clamp, wq_eqF, wq_eqm, wq_meq, wq_add, wq_mul, wq_subT, eq_self, Bool.false_eq_true, ↓reduceIte, Option.bind_some, Sum.elim_inl, Sum.elim_inr, ↓wq_f0b, ↓wq_f1b, ↓wq_f2b, ↓wq_r0b, ↓wq_r1b, ↓Option.bind_some, i2, w2]
          exact ⟨_, _, h1, h2, ⟨rfl, fun _ => wp_cmp _⟩, wi_out hI⟩
        · rw [if_neg hb] at i1 i2
          have h1 : xf_la_place (S 15 1) (A 16) (A 19) (A 18) (A 20) (A 21) 1 N (L 77) x (Int32.ofNat k) = some (Int32.ofNat 1, L 77) := by
            simp (disch := omega) only [↓xf_la_place_s, xf_xt_place_s, xf_xt_place_19_s, xf_xt_place_20_s, ↓xf_xt_rowOrRefuse_19_s, ↓xf_xt_rowOrRefuse_s, ↓xf_xt_refuseUnless_s, e1, wq_or, wq_ltT, wq_ltF, wq_inT, wq_clamp, wq_eqF, wq_eqm, wq_meq, wq_add, wq_mul, wq_subT, eq_self, Bool.false_eq_true, ↓reduceIte, Option.bind_some, Sum.elim_inl, Sum.elim_inr, ↓wq_f0b, ↓wq_f1b, ↓wq_f2b, ↓wq_r0b, ↓wq_r1b, ↓Option.bind_some, i1]
          have h2 : xf_rf_place (A 66) (A 67) (A 70) (A 71) (A 72) N (S 57 0) x (Int32.ofNat k) = some (0, Int32.ofNat 1) := by
            simp (disch := omega) only [xf_rf_place_s, xf_rf_place_27_s, xf_rf_place_32_s, xf_rf_place_53_s, xf_rf_place_60_s, e2, wq_or, wq_f0, wq_f1, wq_ltT, wq_ltF, wq_inT, wq_clamp, wq_eqF, wq_eqm, wq_meq, wq_add, wq_mul, wq_subT, eq_self, Bool.false_eq_true, ↓reduceIte, Option.bind_some, Sum.elim_inl, Sum.elim_inr, ↓wq_f0b, ↓wq_f1b, ↓wq_f2b, ↓wq_r0b, ↓wq_r1b, ↓Option.bind_some, i2]
          exact ⟨_, _, h1, h2, ⟨rfl, fun h => absurd h wq_ne1⟩, wi_out hI⟩
      · have h1 : xf_la_place (S 15 1) (A 16) (A 19) (A 18) (A 20) (A 21) 1 N (L 77) x (Int32.ofNat k) = some (Int32.ofNat 1, L 77) := by
          simp (disch := omega) only [↓xf_la_place_s, xf_xt_place_s, xf_xt_place_19_s, xf_xt_place_20_s, ↓xf_xt_rowOrRefuse_19_s, ↓xf_xt_rowOrRefuse_s, ↓xf_xt_refuseUnless_s, e1, wq_or, wq_ltT, wq_ltF, wq_inT, wq_clamp, wq_eqF, wq_eqm, wq_meq, wq_add, wq_mul, wq_subT, eq_self, Bool.false_eq_true, ↓reduceIte, Option.bind_some, Sum.elim_inl, Sum.elim_inr, ↓wq_f0b, ↓wq_f1b, ↓wq_f2b, ↓wq_r0b, ↓wq_r1b, ↓Option.bind_some]
        have h2 : xf_rf_place (A 66) (A 67) (A 70) (A 71) (A 72) N (S 57 0) x (Int32.ofNat k) = some (0, Int32.ofNat 1) := by
          simp (disch := omega) only [xf_rf_place_s, xf_rf_place_27_s, xf_rf_place_32_s, xf_rf_place_60_s, e2, wq_or, wq_f1, wq_ltT, wq_ltF, wq_inT, wq_clamp, wq_eqF, wq_eqm, wq_meq, wq_add, wq_mul, wq_subT, eq_self, Bool.false_eq_true, ↓reduceIte, Option.bind_some, Sum.elim_inl, Sum.elim_inr, ↓wq_f0b, ↓wq_f1b, ↓wq_f2b, ↓wq_r0b, ↓wq_r1b, ↓Option.bind_some]
        exact ⟨_, _, h1, h2, ⟨rfl, fun h => absurd h wq_ne1⟩, wi_out hI⟩
