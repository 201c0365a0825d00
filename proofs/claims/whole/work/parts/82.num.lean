/-! READ: numbers and references. -/
theorem wz_dvS {ch : Nat → Nat} : ∀ k j x, wt_dv ch (k + 1) j x = wt_dv ch k j x * 10 + ch (j + k) - 48 := by
  intro k
  induction k with
  | zero => intro j x; rfl
  | succ k ih =>
    intro j x
    have e1 : wt_dv ch (k + 1 + 1) j x = wt_dv ch (k + 1) (j + 1) (x * 10 + ch j - 48) := rfl
    have e2 : wt_dv ch (k + 1) j x = wt_dv ch k (j + 1) (x * 10 + ch j - 48) := rfl
    rw [e1, e2, ih, show j + 1 + k = j + (k + 1) by omega]
theorem wz_m2 {a : Nat} (h : a < 2147483648) : (Int32.ofNat a = (-2000000000 : Int32)) = False := by
  apply eq_false
  intro e
  have h1 := congrArg Int32.toInt e
  rw [wq_int h] at h1
  have h2 : (-2000000000 : Int32).toInt = -2000000000 := by decide
  omega
theorem wz_negI {a : Nat} (h : a < 2147483648) : (-(Int32.ofNat a)).toInt = -(a : Int) := by
  rw [Int32.toInt_neg, wq_int h, Int.bmod_eq_of_le] <;> omega
theorem wz_m2n {a : Nat} (h : a < 1000000000) : (-(Int32.ofNat a) = (-2000000000 : Int32)) = False := by
  apply eq_false
  intro e
  have h1 := congrArg Int32.toInt e
  rw [wz_negI (by omega)] at h1
  have h2 : (-2000000000 : Int32).toInt = -2000000000 := by decide
  omega
theorem wz_in1 {a : Nat} (h : a < 1000000000) : ¬ Int32.ofNat a < (-999999999 : Int32) ∧ ¬ Int32.ofNat 999999999 < Int32.ofNat a := by
  have h2 : (-999999999 : Int32).toInt = -999999999 := by decide
  rw [Int32.lt_iff_toInt_lt, Int32.lt_iff_toInt_lt, wq_int (by omega), wq_int (by omega), h2]
  omega
theorem wz_in2 {a : Nat} (h : a < 1000000000) : ¬ -(Int32.ofNat a) < (-999999999 : Int32) ∧ ¬ Int32.ofNat 999999999 < -(Int32.ofNat a) := by
  have h2 : (-999999999 : Int32).toInt = -999999999 := by decide
  rw [Int32.lt_iff_toInt_lt, Int32.lt_iff_toInt_lt, wz_negI (by omega), wq_int (by omega), h2]
  omega
section
variable {E T : Nat} {ch : Nat → Nat} {signs text : Nat → Int32} {b st : Nat → Nat} {o : Nat → Bool} {begin_ end_ first digits : Nat → Int32}
theorem wz_o (hK : wt_Tok ch E false T b st o begin_ end_ first digits) : ∀ i, i ≤ T → o i = false := by
  intro i
  induction i with
  | zero => intro _; exact hK.1.1.2
  | succ i ih =>
    intro hi
    rw [(hK.1.2 i (by omega)).2.2.2.2.2.1, ih (by omega)]
    unfold wt_so
    by_cases h : ch (b i) = 61
    · rw [if_pos h]
    · rw [if_neg h]
      rfl
theorem wz_dtok (hX : wt_X E ch signs text) (hK : wt_Tok ch E false T b st o begin_ end_ first digits) {i : Nat} (hi : i < T) (hd : wt_dg (ch (b i)) = true) : wt_end wt_dg ch E (b i) = st (i + 1) ∧ end_ i = Int32.ofNat (st (i + 1)) ∧ b i < st (i + 1) ∧ st (i + 1) ≤ E ∧ (∀ j, b i ≤ j → j < st (i + 1) → 48 ≤ ch j ∧ ch j ≤ 57) ∧ digits i = (if 9 < st (i + 1) - b i then -1 else Int32.ofNat (wt_dv ch (st (i + 1) - b i) (b i) 0)) := by
  obtain ⟨g1, g2, g3, g4, g5, g6, g7, g8, g9, g10⟩ := hK.1.2 i hi
  have dr := wt_dg_iff.mp hd
  have l0 : ¬ wt_lt (ch (b i)) = true := fun hh => by
    have := wt_lt_iff.mp hh
    omega
  have we : wt_e ch E (o i) (b i) = some (wt_end wt_dg ch E (b i + 1)) := by
    unfold wt_e
    rw [if_neg (fun hh => l0 hh.2), if_neg (by omega), if_pos hd]
  obtain ⟨e1, e2, e3, _⟩ := wt_end_le (P := wt_dg) (ch := ch) (E := E) (E - (b i + 1)) (b i + 1) (by omega)
  rw [we] at g5 g8
  have g5' : st (i + 1) = wt_end wt_dg ch E (b i + 1) := g5
  have g8' : end_ i = Int32.ofNat (wt_end wt_dg ch E (b i + 1)) := g8
  rw [← g5'] at g8' e1 e2 e3
  refine ⟨by rw [wt_end1 g2 hd]; exact g5'.symm, g8', by omega, e2, fun j h1 h2 => ?_, ?_⟩
  · by_cases e : j = b i
    · rw [e]
      exact dr
    · exact wt_dg_iff.mp (e3 j (by omega) h2)
  · rw [g10]
    unfold wt_ds
    rw [if_pos hd, ← g5']
/-- where no digit stands -/
theorem wz_dno (hK : wt_Tok ch E false T b st o begin_ end_ first digits) {i : Nat} (hi : i ≤ T) (hd : i < T → ¬ wt_dg (ch (b i)) = true) : wt_end wt_dg ch E (b i) = b i ∧ (i < T → digits i = -1) := by
  by_cases h : i < T
  · obtain ⟨g1, g2, g3, g4, g5, g6, g7, g8, g9, g10⟩ := hK.1.2 i h
    refine ⟨wt_end2 g2 (hd h), fun _ => ?_⟩
    rw [g10]
    unfold wt_ds
    rw [if_neg (hd h)]
  · have e : i = T := by omega
    refine ⟨wt_end3 ?_, fun hh => absurd hh h⟩
    rw [e, hK.2.2.1]
    omega
theorem wz_dv9 {s k : Nat} (hk : k ≤ 9) (h : ∀ i, i < k → 48 ≤ ch (s + i) ∧ ch (s + i) ≤ 57) : wt_dv ch k s 0 < 10 ^ k := by
  have := wt_dv_lt (ch := ch) k s 0 0 (by decide) h
  rw [Nat.zero_add] at this
  exact this
theorem wz_rdigits25 (hX : wt_X E ch signs text) {N s : Nat} (hs : s ≤ E) (mx pl fl : Int32) : ∀ k p M, p + k = wt_end wt_dg ch E s → s ≤ p → k < M →
    xf_rf_digits_25 (Int32.ofNat E) text N M (Int32.ofNat p) fl (Int32.ofNat s) mx pl (Int32.ofNat (wt_dv ch (min (p - s) 9) s 0)) = xf_rf_digits_96 (Int32.ofNat E) text N (Int32.ofNat (wt_end wt_dg ch E s)) fl (Int32.ofNat s) mx pl (Int32.ofNat (wt_dv ch (min (wt_end wt_dg ch E s - s) 9) s 0)) := by
  obtain ⟨hE, hch⟩ := hX
  obtain ⟨e1, e2, e3, e4⟩ := wt_end_le (P := wt_dg) (ch := ch) (E := E) (E - s) s (by omega)
  intro k
  induction k with
  | zero =>
    intro p M hp hsp hM
    obtain ⟨M', rfl⟩ : ∃ M', M = M' + 1 := ⟨M - 1, by omega⟩
    have ep : p = wt_end wt_dg ch E s := by omega
    by_cases hpE : p < E
    · obtain ⟨_, t1, t2, t3⟩ := hch p hpE
      have l1 := wt_rD (c := ch p) (by omega)
      rw [if_neg (by rw [ep]; exact e4 (by omega))] at l1
      rw [xf_rf_digits_25_s]
      simp (disch := omega) only [wq_ltT, wq_ltF, wq_inT, wq_clamp, wq_eqF, wq_eqm, wq_meq, wq_add, wq_mul, wq_subT, eq_self, Bool.false_eq_true, ↓reduceIte, Option.bind_some, Sum.elim_inl, Sum.elim_inr, ↓wq_f0b, ↓wq_f1b, ↓wq_f2b, ↓wq_r0b, ↓wq_r1b, ↓Option.bind_some, t1, ↓wq_b l1]
      rw [ep]
    · rw [xf_rf_digits_25_s]
      simp (disch := omega) only [wq_ltT, wq_ltF, wq_inT, wq_clamp, wq_eqF, wq_eqm, wq_meq, wq_add, wq_mul, wq_subT, eq_self, Bool.false_eq_true, ↓reduceIte, Option.bind_some, Sum.elim_inl, Sum.elim_inr, ↓wq_f0b, ↓wq_f1b, ↓wq_f2b, ↓wq_r0b, ↓wq_r1b, ↓Option.bind_some]
      rw [ep]
  | succ k ih =>
    intro p M hp hsp hM
    obtain ⟨M', rfl⟩ : ∃ M', M = M' + 1 := ⟨M - 1, by omega⟩
    obtain ⟨_, t1, t2, t3⟩ := hch p (by omega)
    have hd := e3 p hsp (by omega)
    have l1 := wt_rD (c := ch p) (by omega)
    have dr := wt_dg_iff.mp hd
    rw [if_pos hd] at l1
    rw [← ih (p + 1) M' (by omega) (by omega) (by omega), xf_rf_digits_25_s]
    by_cases h9 : p - s < 9
    · have b1 := wz_dv9 (ch := ch) (s := s) (k := p - s) (by omega) (fun i hi => wt_dg_iff.mp (e3 (s + i) (by omega) (by omega)))
      have p8 : 10 ^ (p - s) ≤ 10 ^ 8 := Nat.pow_le_pow_right (by omega) (by omega)
      have p8' : (10 : Nat) ^ 8 = 100000000 := by decide
      have m1 : min (p - s) 9 = p - s := by omega
      have m2 : min (p + 1 - s) 9 = (p - s) + 1 := by omega
      have sn := wz_dvS (ch := ch) (p - s) s 0
      rw [show s + (p - s) = p by omega] at sn
      rw [m1, m2, sn]
      simp (disch := omega) only [↓xf_rf_digits_83_s, wq_ltT, wq_ltF, wq_inT, wq_clamp, wq_eqF, wq_eqm, wq_meq, wq_add, wq_mul, wq_subT, eq_self, Bool.false_eq_true, ↓reduceIte, Option.bind_some, Sum.elim_inl, Sum.elim_inr, ↓wq_f0b, ↓wq_f1b, ↓wq_f2b, ↓wq_r0b, ↓wq_r1b, ↓Option.bind_some, t1, ↓wq_b l1]
      rw [Nat.mul_comm 10]
    · have m1 : min (p - s) 9 = 9 := by omega
      have m2 : min (p + 1 - s) 9 = 9 := by omega
      rw [m1, m2]
      simp (disch := omega) only [↓xf_rf_digits_83_s, wq_ltT, wq_ltF, wq_inT, wq_clamp, wq_eqF, wq_eqm, wq_meq, wq_add, wq_mul, wq_subT, eq_self, Bool.false_eq_true, ↓reduceIte, Option.bind_some, Sum.elim_inl, Sum.elim_inr, ↓wq_f0b, ↓wq_f1b, ↓wq_f2b, ↓wq_r0b, ↓wq_r1b, ↓Option.bind_some, t1, ↓wq_b l1]
theorem wz_rdigits (hX : wt_X E ch signs text) (hK : wt_Tok ch E false T b st o begin_ end_ first digits) {N : Nat} (hN : 1300 ≤ N) {i p : Nat} (hi : i ≤ T) (h1 : st i ≤ p) (h2 : p ≤ b i) {mx : Nat} (hmx : mx < 2147483648) (pl from_ : Int32) :
    xf_rf_digits (Int32.ofNat E) text N (Int32.ofNat p) (-1) from_ (Int32.ofNat mx) pl = some (Int32.ofNat (wt_dv ch (min (wt_end wt_dg ch E (b i) - b i) 9) (b i) 0), Int32.ofNat (wt_end wt_dg ch E (b i)), (if wt_end wt_dg ch E (b i) = b i then Int32.ofNat (b i) else if mx < wt_end wt_dg ch E (b i) - b i then (if pl = -1 then Int32.ofNat (b i) else pl) else -1), Int32.ofNat (b i)) := by
  have hE := hX.1
  have hb := wt_b_le hK hi
  have pk := wt_peek hX hK hN hi h1 h2
  obtain ⟨e1, e2, _⟩ := wt_end_le (P := wt_dg) (ch := ch) (E := E) (E - b i) (b i) (by omega)
  have i3 := wz_rdigits25 (N := N) hX hb (Int32.ofNat mx) pl (-1) (wt_end wt_dg ch E (b i) - b i) (b i) N (by omega) (Nat.le_refl _) (by omega)
  rw [Nat.sub_self, Nat.zero_min, wt_dv] at i3
  have m1 : ((-1 : Int32) = -1) = True := eq_true rfl
  by_cases h0 : wt_end wt_dg ch E (b i) = b i
  · rw [if_pos h0]
    rw [h0] at i3 ⊢
    simp (disch := omega) only [↓xf_rf_digits_s, wq_ltT, wq_ltF, wq_inT, wq_clamp, wq_eqF, wq_eqm, wq_meq, wq_add, wq_mul, wq_subT, eq_self, Bool.false_eq_true, ↓reduceIte, Option.bind_some, Sum.elim_inl, Sum.elim_inr, ↓wq_f0b, ↓wq_f1b, ↓wq_f2b, ↓wq_r0b, ↓wq_r1b, ↓Option.bind_some, m1, ↓wq_b pk, i3, ↓xf_rf_digits_96_s, ↓xf_rf_digits_115_s, ↓xf_rf_digits_142_s, ↓xf_rf_digits_145_s, ↓xf_rf_wrongAt_13_s, ↓xf_rf_wrongAt_s]
  · rw [if_neg h0]
    by_cases h8 : mx < wt_end wt_dg ch E (b i) - b i
    · rw [if_pos h8]
      by_cases hpl : pl = -1
      · rw [if_pos hpl]
        subst hpl
        simp (disch := omega) only [↓xf_rf_digits_s, wq_ltT, wq_ltF, wq_inT, wq_clamp, wq_eqF, wq_eqm, wq_meq, wq_add, wq_mul, wq_subT, eq_self, Bool.false_eq_true, ↓reduceIte, Option.bind_some, Sum.elim_inl, Sum.elim_inr, ↓wq_f0b, ↓wq_f1b, ↓wq_f2b, ↓wq_r0b, ↓wq_r1b, ↓Option.bind_some, m1, ↓wq_b pk, i3, ↓xf_rf_digits_96_s, ↓xf_rf_digits_115_s, ↓xf_rf_digits_142_s, ↓xf_rf_digits_145_s, ↓xf_rf_wrongAt_13_s, ↓xf_rf_wrongAt_s]
      · rw [if_neg hpl]
        simp (disch := omega) only [↓xf_rf_digits_s, wq_ltT, wq_ltF, wq_inT, wq_clamp, wq_eqF, wq_eqm, wq_meq, wq_add, wq_mul, wq_subT, eq_self, Bool.false_eq_true, ↓reduceIte, Option.bind_some, Sum.elim_inl, Sum.elim_inr, ↓wq_f0b, ↓wq_f1b, ↓wq_f2b, ↓wq_r0b, ↓wq_r1b, ↓Option.bind_some, m1, ↓wq_b pk, i3, hpl, ↓xf_rf_digits_96_s, ↓xf_rf_digits_115_s, ↓xf_rf_digits_142_s, ↓xf_rf_digits_145_s, ↓xf_rf_wrongAt_13_s, ↓xf_rf_wrongAt_s]
    · rw [if_neg h8]
      simp (disch := omega) only [↓xf_rf_digits_s, wq_ltT, wq_ltF, wq_inT, wq_clamp, wq_eqF, wq_eqm, wq_meq, wq_add, wq_mul, wq_subT, eq_self, Bool.false_eq_true, ↓reduceIte, Option.bind_some, Sum.elim_inl, Sum.elim_inr, ↓wq_f0b, ↓wq_f1b, ↓wq_f2b, ↓wq_r0b, ↓wq_r1b, ↓Option.bind_some, m1, ↓wq_b pk, i3, ↓xf_rf_digits_96_s, ↓xf_rf_digits_115_s, ↓xf_rf_digits_142_s, ↓xf_rf_digits_145_s, ↓xf_rf_wrongAt_13_s, ↓xf_rf_wrongAt_s]
/-- the number of a line -/
theorem wz_line (hX : wt_X E ch signs text) (hK : wt_Tok ch E false T b st o begin_ end_ first digits) {N : Nat} (hN : 1300 ≤ N) {i p : Nat} (hi : i ≤ T) (h1 : st i ≤ p) (h2 : p ≤ b i) (from_ : Int32) :
    (∃ w, i < T ∧ 1 ≤ w ∧ w ≤ 999 ∧ xf_wd_lineAhead begin_ digits end_ (Int32.ofNat i) (Int32.ofNat T) = some (Int32.ofNat w) ∧ xf_rf_digits (Int32.ofNat E) text N (Int32.ofNat p) (-1) from_ (Int32.ofNat 3) (-1) = some (Int32.ofNat w, Int32.ofNat (st (i + 1)), -1, Int32.ofNat (b i))) ∨
    (xf_wd_lineAhead begin_ digits end_ (Int32.ofNat i) (Int32.ofNat T) = some (-1) ∧ ∃ (v at_ : Nat) (f : Int32), xf_rf_digits (Int32.ofNat E) text N (Int32.ofNat p) (-1) from_ (Int32.ofNat 3) (-1) = some (Int32.ofNat v, Int32.ofNat at_, f, Int32.ofNat (b i)) ∧ v < 1000000000 ∧ (f = Int32.ofNat (b i) ∨ (v = 0 ∧ f = -1))) := by
  have hE := hX.1
  have hTE := hK.2.1
  have rd := wz_rdigits hX hK hN hi h1 h2 (mx := 3) (by omega) (-1) from_
  have hb := wt_b_le hK hi
  rw [if_pos rfl] at rd
  by_cases hd : i < T ∧ wt_dg (ch (b i)) = true
  · obtain ⟨hiT, hd⟩ := hd
    obtain ⟨g1, g2, g3, g4, g5, g6, g7, g8, g9, g10⟩ := hK.1.2 i hiT
    obtain ⟨d1, d2, d3, d4, d5, d6⟩ := wz_dtok hX hK hiT hd
    rw [d1] at rd
    have b1 := wz_dv9 (ch := ch) (s := b i) (k := min (st (i + 1) - b i) 9) (by omega) (fun j hj => d5 (b i + j) (by omega) (by omega))
    have p9 : 10 ^ (min (st (i + 1) - b i) 9) ≤ 10 ^ 9 := Nat.pow_le_pow_right (by omega) (by omega)
    have p9' : (10 : Nat) ^ 9 = 1000000000 := by decide
    rw [if_neg (by omega)] at rd
    by_cases h3 : 3 < st (i + 1) - b i
    · rw [if_pos h3] at rd
      refine Or.inr ⟨?_, _, _, _, rd, by omega, Or.inl rfl⟩
      simp (disch := omega) only [↓xf_wd_lineAhead_47_s, ↓xf_wd_lineAhead_s, wq_ltT, wq_ltF, wq_inT, wq_clamp, wq_eqF, wq_eqm, wq_meq, wq_add, wq_mul, wq_subT, eq_self, Bool.false_eq_true, ↓reduceIte, Option.bind_some, Sum.elim_inl, Sum.elim_inr, ↓wq_f0b, ↓wq_f1b, ↓wq_f2b, ↓wq_r0b, ↓wq_r1b, ↓Option.bind_some, d2, g7]
    · rw [if_neg h3] at rd
      rw [if_neg (by omega)] at d6
      have m1 : min (st (i + 1) - b i) 9 = st (i + 1) - b i := by omega
      rw [m1] at rd b1
      have p3 : 10 ^ (st (i + 1) - b i) ≤ 10 ^ 3 := Nat.pow_le_pow_right (by omega) (by omega)
      have p3' : (10 : Nat) ^ 3 = 1000 := by decide
      by_cases h0 : wt_dv ch (st (i + 1) - b i) (b i) 0 < 1
      · refine Or.inr ⟨?_, _, _, _, rd, by omega, Or.inr ⟨by omega, rfl⟩⟩
        simp (disch := omega) only [↓xf_wd_lineAhead_47_s, ↓xf_wd_lineAhead_s, wq_ltT, wq_ltF, wq_inT, wq_clamp, wq_eqF, wq_eqm, wq_meq, wq_add, wq_mul, wq_subT, eq_self, Bool.false_eq_true, ↓reduceIte, Option.bind_some, Sum.elim_inl, Sum.elim_inr, ↓wq_f0b, ↓wq_f1b, ↓wq_f2b, ↓wq_r0b, ↓wq_r1b, ↓Option.bind_some, d2, g7, d6]
      · refine Or.inl ⟨_, hiT, by omega, by omega, ?_, rd⟩
        simp (disch := omega) only [↓xf_wd_lineAhead_47_s, ↓xf_wd_lineAhead_s, wq_ltT, wq_ltF, wq_inT, wq_clamp, wq_eqF, wq_eqm, wq_meq, wq_add, wq_mul, wq_subT, eq_self, Bool.false_eq_true, ↓reduceIte, Option.bind_some, Sum.elim_inl, Sum.elim_inr, ↓wq_f0b, ↓wq_f1b, ↓wq_f2b, ↓wq_r0b, ↓wq_r1b, ↓Option.bind_some, d2, g7, d6]
  · obtain ⟨d1, d2⟩ := wz_dno hK hi (fun h hh => hd ⟨h, hh⟩)
    rw [d1, if_pos rfl, Nat.sub_self] at rd
    refine Or.inr ⟨?_, _, _, _, rd, by rw [Nat.zero_min, wt_dv]; omega, Or.inl rfl⟩
    by_cases hiT : i < T
    · have d3 := d2 hiT
      have lt1 : ((-1 : Int32) < Int32.ofNat 1) = True := by decide
      by_cases hx : Int32.ofNat 3 < end_ i - begin_ i
      · simp (disch := omega) only [↓xf_wd_lineAhead_47_s, ↓xf_wd_lineAhead_s, wq_ltT, wq_ltF, wq_inT, wq_clamp, wq_eqF, wq_eqm, wq_meq, wq_add, wq_mul, wq_subT, eq_self, Bool.false_eq_true, ↓reduceIte, Option.bind_some, Sum.elim_inl, Sum.elim_inr, ↓wq_f0b, ↓wq_f1b, ↓wq_f2b, ↓wq_r0b, ↓wq_r1b, ↓Option.bind_some, d3, hx]
      · simp (disch := omega) only [↓xf_wd_lineAhead_47_s, ↓xf_wd_lineAhead_s, wq_ltT, wq_ltF, wq_inT, wq_clamp, wq_eqF, wq_eqm, wq_meq, wq_add, wq_mul, wq_subT, eq_self, Bool.false_eq_true, ↓reduceIte, Option.bind_some, Sum.elim_inl, Sum.elim_inr, ↓wq_f0b, ↓wq_f1b, ↓wq_f2b, ↓wq_r0b, ↓wq_r1b, ↓Option.bind_some, d3, hx, lt1]
    · simp (disch := omega) only [↓xf_wd_lineAhead_47_s, ↓xf_wd_lineAhead_s, wq_ltT, wq_ltF, wq_inT, wq_clamp, wq_eqF, wq_eqm, wq_meq, wq_add, wq_mul, wq_subT, eq_self, Bool.false_eq_true, ↓reduceIte, Option.bind_some, Sum.elim_inl, Sum.elim_inr, ↓wq_f0b, ↓wq_f1b, ↓wq_f2b, ↓wq_r0b, ↓wq_r1b, ↓Option.bind_some]
/-- a sign of its own that stands ahead -/
theorem wz_sgn (hK : wt_Tok ch E false T b st o begin_ end_ first digits) {i c : Nat} (hi : i ≤ T) (hc : c ≠ 0) (h : wt_a ch T b i = c) (h1 : ¬ wt_lt c = true) (h2 : ¬ wt_dg c = true) (h3 : c ≠ 39) : i < T ∧ ch (b i) = c ∧ st (i + 1) = b i + 1 ∧ b i + 1 ≤ b (i + 1) := by
  have hiT : i < T := by
    apply Classical.byContradiction
    intro hc
    have e : wt_a ch T b i = 0 := if_neg hc
    omega
  have ea : wt_a ch T b i = ch (b i) := if_pos hiT
  have ec : ch (b i) = c := by omega
  have s1 := wt_single hK hiT (by rw [ec]; exact h1) (by rw [ec]; exact h2) (by rw [ec]; exact h3)
  have s2 := wt_st_le hK (i := i + 1) (by omega)
  exact ⟨hiT, ec, s1, by omega⟩
/-- a reference -/
theorem wz_ref (hX : wt_X E ch signs text) (hK : wt_Tok ch E false T b st o begin_ end_ first digits) {N : Nat} (hN : 1300 ≤ N) {i p : Nat} (hi : i ≤ T) (h1 : st i ≤ p) (h2 : p ≤ b i) (from_ : Int32) :
    (∃ w fr, wt_a ch T b i = 35 ∧ i + 2 ≤ T ∧ st i + 2 ≤ st (i + 2) ∧ 1 ≤ w ∧ w ≤ 999 ∧ xf_wd_takeReference begin_ digits end_ first (Int32.ofNat T) (Int32.ofNat i) = some (Int32.ofNat w, Int32.ofNat (i + 2)) ∧ xf_rf_reference (Int32.ofNat E) text N (Int32.ofNat p) (-1) from_ = some (Int32.ofNat w, Int32.ofNat (st (i + 2)), -1, fr)) ∨
    (∃ i' v at_ fr, i' ≤ T ∧ xf_wd_takeReference begin_ digits end_ first (Int32.ofNat T) (Int32.ofNat i) = some (-2000000000, Int32.ofNat i') ∧ xf_rf_reference (Int32.ofNat E) text N (Int32.ofNat p) (-1) from_ = some (v, at_, Int32.ofNat (b i'), fr) ∧ (¬ wt_a ch T b i = 35 → i' = i)) := by
  have hE := hX.1
  have hTE := hK.2.1
  have m1 : ((-1 : Int32) = -1) = True := eq_true rfl
  have fne : ∀ x, x ≤ 1200 → (Int32.ofNat x = -1) = False := fun x hx => wq_eqm (by omega)
  have hb := wt_b_le hK hi
  have tk := wt_takes hX hK (i := i) (c := 35) hi (by omega) (by omega)
  have rs := wt_rsign hX hK hN hi h1 h2 (c := 35) (by omega)
  by_cases h35 : wt_a ch T b i = 35
  · rw [if_pos h35] at tk rs
    obtain ⟨hiT, _, s1, s2⟩ := wz_sgn hK hi (by omega) h35 (by decide) (by decide) (by omega)
    have hb1 := wt_b_le hK (i := i + 1) (by omega)
    have hs := wt_st_le hK hi
    rcases wz_line hX hK hN (i := i + 1) (p := b i + 1) (by omega) (by omega) (by omega) from_ with ⟨w, l1, l2, l3, l4, l5⟩ | ⟨l4, v, at_, f, l5, l6, l7⟩
    · refine Or.inl ⟨w, Int32.ofNat (b (i + 1)), h35, by omega, ?_, l2, l3, ?_, ?_⟩
      · have g := hK.1.2 (i + 1) l1
        have : b (i + 1) < st (i + 2) := by
          have e5 : st (i + 2) = (wt_e ch E (o (i + 1)) (b (i + 1))).getD E := g.2.2.2.2.1
          rw [e5]
          cases hw : wt_e ch E (o (i + 1)) (b (i + 1)) with
          | none => exact g.2.1
          | some r => exact (wt_e_le g.2.1 hw).1
        omega
      · simp (disch := omega) only [↓xf_wd_takeReference_17_s, ↓xf_wd_takeReference_s, wq_ltT, wq_ltF, wq_inT, wq_clamp, wq_eqF, wq_eqm, wq_meq, wq_add, wq_mul, wq_subT, eq_self, Bool.false_eq_true, ↓reduceIte, Option.bind_some, Sum.elim_inl, Sum.elim_inr, ↓wq_f0b, ↓wq_f1b, ↓wq_f2b, ↓wq_r0b, ↓wq_r1b, ↓Option.bind_some, ↓wq_b tk, ↓wq_b l4, Nat.add_assoc, Nat.reduceAdd]
      · simp (disch := omega) only [↓xf_rf_reference_25_s, ↓xf_rf_reference_s, wq_ltT, wq_ltF, wq_inT, wq_clamp, wq_eqF, wq_eqm, wq_meq, wq_add, wq_mul, wq_subT, eq_self, Bool.false_eq_true, ↓reduceIte, Option.bind_some, Sum.elim_inl, Sum.elim_inr, ↓wq_f0b, ↓wq_f1b, ↓wq_f2b, ↓wq_r0b, ↓wq_r1b, ↓Option.bind_some, ↓wq_b rs, ↓wq_b l5, Nat.add_assoc, Nat.reduceAdd]
    · refine Or.inr ⟨i + 1, Int32.ofNat v, Int32.ofNat at_, Int32.ofNat (b (i + 1)), by omega, ?_, ?_, fun hh => absurd h35 hh⟩
      · simp (disch := omega) only [↓xf_wd_takeReference_17_s, ↓xf_wd_takeReference_s, wq_ltT, wq_ltF, wq_inT, wq_clamp, wq_eqF, wq_eqm, wq_meq, wq_add, wq_mul, wq_subT, eq_self, Bool.false_eq_true, ↓reduceIte, Option.bind_some, Sum.elim_inl, Sum.elim_inr, ↓wq_f0b, ↓wq_f1b, ↓wq_f2b, ↓wq_r0b, ↓wq_r1b, ↓Option.bind_some, ↓wq_b tk, ↓wq_b l4]
      · rcases l7 with rfl | ⟨rfl, rfl⟩
        · by_cases v0 : v = 0
          · subst v0
            simp (disch := omega) only [↓xf_rf_reference_25_s, ↓xf_rf_reference_s, ↓xf_rf_wrongAt_13_s, ↓xf_rf_wrongAt_s, wq_ltT, wq_ltF, wq_inT, wq_clamp, wq_eqF, wq_eqm, wq_meq, wq_add, wq_mul, wq_subT, eq_self, Bool.false_eq_true, ↓reduceIte, Option.bind_some, Sum.elim_inl, Sum.elim_inr, ↓wq_f0b, ↓wq_f1b, ↓wq_f2b, ↓wq_r0b, ↓wq_r1b, ↓Option.bind_some, ↓wq_b rs, ↓wq_b l5]
          · simp (disch := omega) only [↓xf_rf_reference_25_s, ↓xf_rf_reference_s, ↓xf_rf_wrongAt_13_s, ↓xf_rf_wrongAt_s, wq_ltT, wq_ltF, wq_inT, wq_clamp, wq_eqF, wq_eqm, wq_meq, wq_add, wq_mul, wq_subT, eq_self, Bool.false_eq_true, ↓reduceIte, Option.bind_some, Sum.elim_inl, Sum.elim_inr, ↓wq_f0b, ↓wq_f1b, ↓wq_f2b, ↓wq_r0b, ↓wq_r1b, ↓Option.bind_some, ↓wq_b rs, ↓wq_b l5]
        · simp (disch := omega) only [↓xf_rf_reference_25_s, ↓xf_rf_reference_s, ↓xf_rf_wrongAt_13_s, ↓xf_rf_wrongAt_s, wq_ltT, wq_ltF, wq_inT, wq_clamp, wq_eqF, wq_eqm, wq_meq, wq_add, wq_mul, wq_subT, eq_self, Bool.false_eq_true, ↓reduceIte, Option.bind_some, Sum.elim_inl, Sum.elim_inr, ↓wq_f0b, ↓wq_f1b, ↓wq_f2b, ↓wq_r0b, ↓wq_r1b, ↓Option.bind_some, ↓wq_b rs, ↓wq_b l5, m1]
  · rw [if_neg h35] at tk rs
    refine Or.inr ⟨i, Int32.ofNat 0, Int32.ofNat (b i), from_, hi, ?_, ?_, fun _ => rfl⟩
    · simp (disch := omega) only [↓xf_wd_takeReference_17_s, ↓xf_wd_takeReference_s, wq_ltT, wq_ltF, wq_inT, wq_clamp, wq_eqF, wq_eqm, wq_meq, wq_add, wq_mul, wq_subT, eq_self, Bool.false_eq_true, ↓reduceIte, Option.bind_some, Sum.elim_inl, Sum.elim_inr, ↓wq_f0b, ↓wq_f1b, ↓wq_f2b, ↓wq_r0b, ↓wq_r1b, ↓Option.bind_some, ↓wq_b tk]
    · have d0 : xf_rf_digits (Int32.ofNat E) text N (Int32.ofNat (b i)) (Int32.ofNat (b i)) from_ (Int32.ofNat 3) (-1) = some (Int32.ofNat 0, Int32.ofNat (b i), Int32.ofNat (b i), from_) := by
        rw [xf_rf_digits_s, if_neg (fun hh => (fne (b i) (by omega)).mp hh)]
      simp (disch := omega) only [↓xf_rf_reference_25_s, ↓xf_rf_reference_s, ↓xf_rf_wrongAt_13_s, ↓xf_rf_wrongAt_s, wq_ltT, wq_ltF, wq_inT, wq_clamp, wq_eqF, wq_eqm, wq_meq, wq_add, wq_mul, wq_subT, eq_self, Bool.false_eq_true, ↓reduceIte, Option.bind_some, Sum.elim_inl, Sum.elim_inr, ↓wq_f0b, ↓wq_f1b, ↓wq_f2b, ↓wq_r0b, ↓wq_r1b, ↓Option.bind_some, ↓wq_b rs, ↓wq_b d0]
/-- a number -/
theorem wz_num (hX : wt_X E ch signs text) (hK : wt_Tok ch E false T b st o begin_ end_ first digits) {N : Nat} (hN : 1300 ≤ N) {i p : Nat} (hi : i ≤ T) (h1 : st i ≤ p) (h2 : p ≤ b i) (from_ : Int32) :
    (∃ (i' : Nat) (v fr : Int32), (wt_a ch T b i = 45 ∨ (i < T ∧ wt_dg (ch (b i)) = true)) ∧ i < i' ∧ i' ≤ T ∧ st i < st i' ∧ ¬ v < -999999999 ∧ ¬ Int32.ofNat 999999999 < v ∧ (v = -2000000000) = False ∧ xf_wd_takeNumber digits first (Int32.ofNat T) (Int32.ofNat i) = some (v, Int32.ofNat i') ∧ xf_rf_number (Int32.ofNat E) text N (Int32.ofNat p) (-1) from_ = some (v, Int32.ofNat (st i'), -1, fr)) ∨
    (∃ (i' : Nat) (v at_ fr : Int32), i' ≤ T ∧ xf_wd_takeNumber digits first (Int32.ofNat T) (Int32.ofNat i) = some (-2000000000, Int32.ofNat i') ∧ xf_rf_number (Int32.ofNat E) text N (Int32.ofNat p) (-1) from_ = some (v, at_, Int32.ofNat (b i'), fr) ∧ (¬ wt_a ch T b i = 45 → ¬ (i < T ∧ wt_dg (ch (b i)) = true) → i' = i)) := by
  have hE := hX.1
  have hTE := hK.2.1
  have m1 : ((-1 : Int32) = -1) = True := eq_true rfl
  have hb := wt_b_le hK hi
  have hs := wt_st_le hK hi
  have ah := wt_ahead hX hK hi
  have ab := wt_a_lt hX hK i
  have pk := wt_peek hX hK hN hi h1 h2
  -- from the word j on, where i is the first
  have main : ∀ (j q sg : Nat), (sg = 0 ∨ sg = 1) → i ≤ j → j ≤ T → st j ≤ q → q ≤ b j → b i ≤ b j → st i ≤ st j →
      (∃ (v : Nat), (j < T ∧ wt_dg (ch (b j)) = true) ∧ v < 1000000000 ∧ st j < st (j + 1) ∧ xf_wd_takeNumber_32 digits first (Int32.ofNat T) (Int32.ofNat i) (Int32.ofNat sg) (Int32.ofNat j) = some (if sg = 0 then Int32.ofNat v else -(Int32.ofNat v), Int32.ofNat (j + 1)) ∧ xf_rf_digits (Int32.ofNat E) text N (Int32.ofNat q) (-1) from_ (Int32.ofNat 9) (Int32.ofNat (b i)) = some (Int32.ofNat v, Int32.ofNat (st (j + 1)), -1, Int32.ofNat (b j))) ∨
      (∃ (i' : Nat) (v at_ : Int32), i' ≤ T ∧ xf_wd_takeNumber_32 digits first (Int32.ofNat T) (Int32.ofNat i) (Int32.ofNat sg) (Int32.ofNat j) = some (-2000000000, Int32.ofNat i') ∧ xf_rf_digits (Int32.ofNat E) text N (Int32.ofNat q) (-1) from_ (Int32.ofNat 9) (Int32.ofNat (b i)) = some (v, at_, Int32.ofNat (b i'), Int32.ofNat (b j)) ∧ (¬ (j < T ∧ wt_dg (ch (b j)) = true) → i' = j)) := by
    intro j q sg hsg hij hj hq1 hq2 hbb hss
    have hbj := wt_b_le hK hj
    have rd := wz_rdigits hX hK hN hj hq1 hq2 (mx := 9) (by omega) (Int32.ofNat (b i)) from_
    rw [if_neg (show ¬ Int32.ofNat (b i) = -1 from fun hh => (wq_eqm (by omega)).mp hh)] at rd
    by_cases hd : j < T ∧ wt_dg (ch (b j)) = true
    · obtain ⟨hjT, hd⟩ := hd
      obtain ⟨g1, g2, g3, g4, g5, g6, g7, g8, g9, g10⟩ := hK.1.2 j hjT
      obtain ⟨d1, d2, d3, d4, d5, d6⟩ := wz_dtok hX hK hjT hd
      have dr := wt_dg_iff.mp hd
      have isd := wt_isD (c := ch (b j)) (by omega)
      rw [if_pos hd] at isd
      rw [d1, if_neg (by omega)] at rd
      by_cases h9 : 9 < st (j + 1) - b j
      · rw [if_pos h9] at rd d6
        refine Or.inr ⟨i, _, _, hi, ?_, rd, fun hh => absurd ⟨hjT, hd⟩ hh⟩
        simp (disch := omega) only [↓xf_wd_takeNumber_32_s, ↓xf_wd_takeNumber_79_s, ↓xf_wd_takeNumber_99_s, ↓xf_wd_takeNumber_104_s, wq_ltT, wq_ltF, wq_inT, wq_clamp, wq_eqF, wq_eqm, wq_meq, wq_add, wq_mul, wq_subT, eq_self, Bool.false_eq_true, ↓reduceIte, Option.bind_some, Sum.elim_inl, Sum.elim_inr, ↓wq_f0b, ↓wq_f1b, ↓wq_f2b, ↓wq_r0b, ↓wq_r1b, ↓Option.bind_some, d6, g9, ↓wq_b isd]
      · rw [if_neg h9] at rd d6
        have mm : min (st (j + 1) - b j) 9 = st (j + 1) - b j := by omega
        rw [mm] at rd
        have b1 := wz_dv9 (ch := ch) (s := b j) (k := st (j + 1) - b j) (by omega) (fun x hx => d5 (b j + x) (by omega) (by omega))
        have p9 : 10 ^ (st (j + 1) - b j) ≤ 10 ^ 9 := Nat.pow_le_pow_right (by omega) (by omega)
        have p9' : (10 : Nat) ^ 9 = 1000000000 := by decide
        refine Or.inl ⟨_, ⟨hjT, hd⟩, by omega, by omega, ?_, rd⟩
        rcases hsg with rfl | rfl
        · simp (disch := omega) only [↓xf_wd_takeNumber_32_s, ↓xf_wd_takeNumber_78_s, wq_ltT, wq_ltF, wq_inT, wq_clamp, wq_eqF, wq_eqm, wq_meq, wq_add, wq_mul, wq_subT, eq_self, Bool.false_eq_true, ↓reduceIte, Option.bind_some, Sum.elim_inl, Sum.elim_inr, ↓wq_f0b, ↓wq_f1b, ↓wq_f2b, ↓wq_r0b, ↓wq_r1b, ↓Option.bind_some, d6]
        · rw [if_neg (by omega)]
          simp (disch := omega) only [↓xf_wd_takeNumber_32_s, ↓xf_wd_takeNumber_78_s, wq_ltT, wq_ltF, wq_inT, wq_clamp, wq_eqF, wq_eqm, wq_meq, wq_add, wq_mul, wq_subT, eq_self, Bool.false_eq_true, ↓reduceIte, Option.bind_some, Sum.elim_inl, Sum.elim_inr, ↓wq_f0b, ↓wq_f1b, ↓wq_f2b, ↓wq_r0b, ↓wq_r1b, ↓Option.bind_some, d6]
    · obtain ⟨d1, d2⟩ := wz_dno hK hj (fun h hh => hd ⟨h, hh⟩)
      rw [d1, if_pos rfl] at rd
      refine Or.inr ⟨j, _, _, hj, ?_, rd, fun _ => rfl⟩
      by_cases hjT : j < T
      · obtain ⟨g1, g2, g3, g4, g5, g6, g7, g8, g9, g10⟩ := hK.1.2 j hjT
        have c1 := (hX.2 _ g2).2.2.2
        have isd := wt_isD (c := ch (b j)) (by omega)
        rw [if_neg (fun hh => hd ⟨hjT, hh⟩)] at isd
        have d3 := d2 hjT
        simp (disch := omega) only [↓xf_wd_takeNumber_32_s, ↓xf_wd_takeNumber_79_s, ↓xf_wd_takeNumber_99_s, ↓xf_wd_takeNumber_104_s, wq_ltT, wq_ltF, wq_inT, wq_clamp, wq_eqF, wq_eqm, wq_meq, wq_add, wq_mul, wq_subT, eq_self, Bool.false_eq_true, ↓reduceIte, Option.bind_some, Sum.elim_inl, Sum.elim_inr, ↓wq_f0b, ↓wq_f1b, ↓wq_f2b, ↓wq_r0b, ↓wq_r1b, ↓Option.bind_some, d3, g9, ↓wq_b isd]
      · simp (disch := omega) only [↓xf_wd_takeNumber_32_s, ↓xf_wd_takeNumber_79_s, ↓xf_wd_takeNumber_99_s, ↓xf_wd_takeNumber_104_s, wq_ltT, wq_ltF, wq_inT, wq_clamp, wq_eqF, wq_eqm, wq_meq, wq_add, wq_mul, wq_subT, eq_self, Bool.false_eq_true, ↓reduceIte, Option.bind_some, Sum.elim_inl, Sum.elim_inr, ↓wq_f0b, ↓wq_f1b, ↓wq_f2b, ↓wq_r0b, ↓wq_r1b, ↓Option.bind_some]
  by_cases h45 : wt_a ch T b i = 45
  · obtain ⟨hiT, _, s1, s2⟩ := wz_sgn hK hi (by omega) h45 (by decide) (by decide) (by omega)
    rw [h45] at ah pk
    rcases main (i + 1) (b i + 1) 1 (Or.inr rfl) (by omega) (by omega) (by omega) (by omega) (by omega) (by omega) with ⟨v, ⟨l1, l0⟩, l2, l3, l4, l5⟩ | ⟨i', v, at_, l1, l4, l5, l6⟩
    · rw [if_neg (by omega)] at l4
      have l3' : st (i + 1) < st (i + 2) := l3
      refine Or.inl ⟨i + 2, -(Int32.ofNat v), Int32.ofNat (b (i + 1)), Or.inl h45, by omega, by omega, by omega, (wz_in2 l2).1, (wz_in2 l2).2, wz_m2n l2, ?_, ?_⟩
      · simp (disch := omega) only [↓xf_wd_takeNumber_s, ↓xf_wd_takeNumber_14_s, wq_ltT, wq_ltF, wq_inT, wq_clamp, wq_eqF, wq_eqm, wq_meq, wq_add, wq_mul, wq_subT, eq_self, Bool.false_eq_true, ↓reduceIte, Option.bind_some, Sum.elim_inl, Sum.elim_inr, ↓wq_f0b, ↓wq_f1b, ↓wq_f2b, ↓wq_r0b, ↓wq_r1b, ↓Option.bind_some, ↓wq_b ah, l4, Nat.add_assoc, Nat.reduceAdd]
      · simp (disch := omega) only [↓xf_rf_number_s, ↓xf_rf_number_14_s, ↓xf_rf_number_34_s, ↓xf_rf_number_52_s, wq_ltT, wq_ltF, wq_inT, wq_clamp, wq_eqF, wq_eqm, wq_meq, wq_add, wq_mul, wq_subT, eq_self, Bool.false_eq_true, ↓reduceIte, Option.bind_some, Sum.elim_inl, Sum.elim_inr, ↓wq_f0b, ↓wq_f1b, ↓wq_f2b, ↓wq_r0b, ↓wq_r1b, ↓Option.bind_some, ↓wq_b pk, ↓wq_b l5, Nat.add_assoc, Nat.reduceAdd]
    · refine Or.inr ⟨i', -v, at_, Int32.ofNat (b (i + 1)), l1, ?_, ?_, fun hh => absurd h45 hh⟩
      · simp (disch := omega) only [↓xf_wd_takeNumber_s, ↓xf_wd_takeNumber_14_s, wq_ltT, wq_ltF, wq_inT, wq_clamp, wq_eqF, wq_eqm, wq_meq, wq_add, wq_mul, wq_subT, eq_self, Bool.false_eq_true, ↓reduceIte, Option.bind_some, Sum.elim_inl, Sum.elim_inr, ↓wq_f0b, ↓wq_f1b, ↓wq_f2b, ↓wq_r0b, ↓wq_r1b, ↓Option.bind_some, ↓wq_b ah, l4, Nat.add_assoc, Nat.reduceAdd]
      · simp (disch := omega) only [↓xf_rf_number_s, ↓xf_rf_number_14_s, ↓xf_rf_number_34_s, ↓xf_rf_number_52_s, wq_ltT, wq_ltF, wq_inT, wq_clamp, wq_eqF, wq_eqm, wq_meq, wq_add, wq_mul, wq_subT, eq_self, Bool.false_eq_true, ↓reduceIte, Option.bind_some, Sum.elim_inl, Sum.elim_inr, ↓wq_f0b, ↓wq_f1b, ↓wq_f2b, ↓wq_r0b, ↓wq_r1b, ↓Option.bind_some, ↓wq_b pk, ↓wq_b l5, Nat.add_assoc, Nat.reduceAdd]
  · rcases main i (b i) 0 (Or.inl rfl) (by omega) (by omega) (by omega) (by omega) (by omega) (by omega) with ⟨v, ⟨l1, l0⟩, l2, l3, l4, l5⟩ | ⟨i', v, at_, l1, l4, l5, l6⟩
    · rw [if_pos rfl] at l4
      refine Or.inl ⟨i + 1, Int32.ofNat v, Int32.ofNat (b i), Or.inr ⟨l1, l0⟩, by omega, by omega, by omega, (wz_in1 l2).1, (wz_in1 l2).2, wz_m2 (by omega), ?_, ?_⟩
      · simp (disch := omega) only [↓xf_wd_takeNumber_s, ↓xf_wd_takeNumber_14_s, wq_ltT, wq_ltF, wq_inT, wq_clamp, wq_eqF, wq_eqm, wq_meq, wq_add, wq_mul, wq_subT, eq_self, Bool.false_eq_true, ↓reduceIte, Option.bind_some, Sum.elim_inl, Sum.elim_inr, ↓wq_f0b, ↓wq_f1b, ↓wq_f2b, ↓wq_r0b, ↓wq_r1b, ↓Option.bind_some, ↓wq_b ah, l4]
      · simp (disch := omega) only [↓xf_rf_number_s, ↓xf_rf_number_14_s, ↓xf_rf_number_34_s, ↓xf_rf_number_52_s, wq_ltT, wq_ltF, wq_inT, wq_clamp, wq_eqF, wq_eqm, wq_meq, wq_add, wq_mul, wq_subT, eq_self, Bool.false_eq_true, ↓reduceIte, Option.bind_some, Sum.elim_inl, Sum.elim_inr, ↓wq_f0b, ↓wq_f1b, ↓wq_f2b, ↓wq_r0b, ↓wq_r1b, ↓Option.bind_some, ↓wq_b pk, ↓wq_b l5]
    · refine Or.inr ⟨i', v, at_, Int32.ofNat (b i), l1, ?_, ?_, fun _ hh => l6 hh⟩
      · simp (disch := omega) only [↓xf_wd_takeNumber_s, ↓xf_wd_takeNumber_14_s, wq_ltT, wq_ltF, wq_inT, wq_clamp, wq_eqF, wq_eqm, wq_meq, wq_add, wq_mul, wq_subT, eq_self, Bool.false_eq_true, ↓reduceIte, Option.bind_some, Sum.elim_inl, Sum.elim_inr, ↓wq_f0b, ↓wq_f1b, ↓wq_f2b, ↓wq_r0b, ↓wq_r1b, ↓Option.bind_some, ↓wq_b ah, l4]
      · simp (disch := omega) only [↓xf_rf_number_s, ↓xf_rf_number_14_s, ↓xf_rf_number_34_s, ↓xf_rf_number_52_s, wq_ltT, wq_ltF, wq_inT, wq_clamp, wq_eqF, wq_eqm, wq_meq, wq_add, wq_mul, wq_subT, eq_self, Bool.false_eq_true, ↓reduceIte, Option.bind_some, Sum.elim_inl, Sum.elim_inr, ↓wq_f0b, ↓wq_f1b, ↓wq_f2b, ↓wq_r0b, ↓wq_r1b, ↓Option.bind_some, ↓wq_b pk, ↓wq_b l5]
end
