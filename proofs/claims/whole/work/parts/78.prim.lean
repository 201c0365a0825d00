/-! WORDS AND CHARACTERS: the steps of both readers. -/
/-- the sign of word i, 0 behind the last -/
def wt_a (ch : Nat → Nat) (T : Nat) (b : Nat → Nat) (i : Nat) : Nat := if i < T then ch (b i) else 0
/-- a text as both sides hold it -/
def wt_X (E : Nat) (ch : Nat → Nat) (signs text : Nat → Int32) : Prop := E ≤ 1200 ∧ ∀ j, j < E → signs j = Int32.ofNat (ch j) ∧ text j = Int32.ofNat (ch j) ∧ 32 ≤ ch j ∧ ch j ≤ 126
section
variable {E T : Nat} {ch : Nat → Nat} {signs text : Nat → Int32} {os : Bool} {b st : Nat → Nat} {o : Nat → Bool} {begin_ end_ first digits : Nat → Int32}
theorem wt_a_lt (hX : wt_X E ch signs text) (hK : wt_Tok ch E os T b st o begin_ end_ first digits) (i : Nat) : wt_a ch T b i ≤ 126 := by
  unfold wt_a
  by_cases h : i < T
  · rw [if_pos h]
    exact (hX.2 _ (hK.1.2 i h).2.1).2.2.2
  · rw [if_neg h]
    omega
theorem wt_b_le (hK : wt_Tok ch E os T b st o begin_ end_ first digits) {i : Nat} (hi : i ≤ T) : b i ≤ E := by
  by_cases h : i < T
  · exact Nat.le_of_lt (hK.1.2 i h).2.1
  · have e : i = T := by omega
    rw [e, hK.2.2.1]
    exact Nat.le_refl E
theorem wt_st_le (hK : wt_Tok ch E os T b st o begin_ end_ first digits) {i : Nat} (hi : i ≤ T) : st i ≤ b i := by
  by_cases h : i < T
  · exact (hK.1.2 i h).1
  · have e : i = T := by omega
    rw [e, hK.2.2.1]
    exact hK.2.2.2.1
/-- the reference looks ahead -/
theorem wt_peek (hX : wt_X E ch signs text) (hK : wt_Tok ch E os T b st o begin_ end_ first digits) {N : Nat} (hN : 1300 ≤ N) {i p : Nat} (hi : i ≤ T) (h1 : st i ≤ p) (h2 : p ≤ b i) : xf_rf_peek (Int32.ofNat E) text N (Int32.ofNat p) = some (Int32.ofNat (wt_a ch T b i), Int32.ofNat (b i)) := by
  obtain ⟨hE, hch⟩ := hX
  have hbE := wt_b_le hK hi
  have bl : ∀ j, st i ≤ j → j < b i → ch j = 32 := by
    by_cases h : i < T
    · exact (hK.1.2 i h).2.2.2.1
    · have e : i = T := by omega
      rw [e, hK.2.2.1]
      exact hK.2.2.2.2
  rw [xf_rf_peek_s]
  suffices H : ∀ k p M, p + k = b i → k < M → st i ≤ p → xf_rf_peek_0 (Int32.ofNat E) text N M (Int32.ofNat p) = some (Int32.ofNat (wt_a ch T b i), Int32.ofNat (b i)) from H (b i - p) p N (by omega) (by omega) h1
  intro k
  induction k with
  | zero =>
    intro p M hp hM hs
    obtain ⟨M', rfl⟩ : ∃ M', M = M' + 1 := ⟨M - 1, by omega⟩
    have e : p = b i := by omega
    subst e
    unfold wt_a
    by_cases h : i < T
    · obtain ⟨_, g2, g3, _⟩ := hK.1.2 i h
      obtain ⟨_, t1, t2, t3⟩ := hch _ g2
      rw [if_pos h]
      simp (disch := omega) only [↓xf_rf_peek_0_s, ↓xf_rf_peek_38_s, ↓xf_rf_peek_62_s, wq_ltT, wq_ltF, wq_inT, wq_clamp, wq_eqF, wq_eqm, wq_meq, wq_add, wq_mul, wq_subT, eq_self, Bool.false_eq_true, ↓reduceIte, Option.bind_some, Sum.elim_inl, Sum.elim_inr, ↓wq_f0b, ↓wq_f1b, ↓wq_f2b, ↓wq_r0b, ↓wq_r1b, ↓Option.bind_some, t1]
    · have e : i = T := by omega
      have eE : b i = E := by
        rw [e]
        exact hK.2.2.1
      rw [if_neg h]
      simp (disch := omega) only [↓xf_rf_peek_0_s, ↓xf_rf_peek_38_s, ↓xf_rf_peek_62_s, wq_ltT, wq_ltF, wq_inT, wq_clamp, wq_eqF, wq_eqm, wq_meq, wq_add, wq_mul, wq_subT, eq_self, Bool.false_eq_true, ↓reduceIte, Option.bind_some, Sum.elim_inl, Sum.elim_inr, ↓wq_f0b, ↓wq_f1b, ↓wq_f2b, ↓wq_r0b, ↓wq_r1b, ↓Option.bind_some]
  | succ k ih =>
    intro p M hp hM hs
    obtain ⟨M', rfl⟩ : ∃ M', M = M' + 1 := ⟨M - 1, by omega⟩
    obtain ⟨_, t1, _⟩ := hch p (by omega)
    rw [bl p hs (by omega)] at t1
    rw [← ih (p + 1) M' (by omega) (by omega) (by omega), xf_rf_peek_0_s]
    simp (disch := omega) only [wq_ltT, wq_ltF, wq_inT, wq_clamp, wq_eqF, wq_eqm, wq_meq, wq_add, wq_mul, wq_subT, eq_self, Bool.false_eq_true, ↓reduceIte, Option.bind_some, Sum.elim_inl, Sum.elim_inr, ↓wq_f0b, ↓wq_f1b, ↓wq_f2b, ↓wq_r0b, ↓wq_r1b, ↓Option.bind_some, t1]
theorem wt_fc {k : Nat} (hk : k ≤ 126) : (fits .char (.int (Int32.ofNat k)) = true) = True := by
  apply eq_true
  show (decide ((0 : Int32) ≤ Int32.ofNat k) && decide (Int32.ofNat k ≤ (65535 : Int32))) = true
  rw [Bool.and_eq_true, decide_eq_true_eq, decide_eq_true_eq, Int32.le_iff_toInt_le, Int32.le_iff_toInt_le, wq_int (by omega)]
  have e1 : (0 : Int32).toInt = 0 := by decide
  have e2 : (65535 : Int32).toInt = 65535 := by decide
  omega
/-- the class looks ahead -/
theorem wt_ahead (hX : wt_X E ch signs text) (hK : wt_Tok ch E os T b st o begin_ end_ first digits) {i : Nat} (hi : i ≤ T) : xf_wd_ahead first (Int32.ofNat i) (Int32.ofNat T) = some (Int32.ofNat (wt_a ch T b i)) := by
  have hE := hX.1
  have hTE := hK.2.1
  have ha := wt_a_lt hX hK i
  unfold wt_a at ha ⊢
  by_cases h : i < T
  · obtain ⟨_, _, _, _, _, _, _, _, g9, _⟩ := hK.1.2 i h
    rw [if_pos h] at ha ⊢
    simp (disch := omega) only [↓xf_wd_ahead_24_s, ↓xf_wd_ahead_s, wq_ltT, wq_ltF, wq_inT, wq_clamp, wq_eqF, wq_eqm, wq_meq, wq_add, wq_mul, wq_subT, eq_self, Bool.false_eq_true, ↓reduceIte, Option.bind_some, Sum.elim_inl, Sum.elim_inr, ↓wq_f0b, ↓wq_f1b, ↓wq_f2b, ↓wq_r0b, ↓wq_r1b, ↓Option.bind_some, g9, wt_fc]
  · rw [if_neg h]
    simp (disch := omega) only [↓xf_wd_ahead_24_s, ↓xf_wd_ahead_s, wq_ltT, wq_ltF, wq_inT, wq_clamp, wq_eqF, wq_eqm, wq_meq, wq_add, wq_mul, wq_subT, eq_self, Bool.false_eq_true, ↓reduceIte, Option.bind_some, Sum.elim_inl, Sum.elim_inr, ↓wq_f0b, ↓wq_f1b, ↓wq_f2b, ↓wq_r0b, ↓wq_r1b, ↓Option.bind_some, wt_fc]
theorem wt_takes (hX : wt_X E ch signs text) (hK : wt_Tok ch E os T b st o begin_ end_ first digits) {i c : Nat} (hi : i ≤ T) (hc : c ≠ 0) (hc2 : c < 2147483648) : xf_wd_takes first (Int32.ofNat T) (Int32.ofNat i) (Int32.ofNat c) = some (if wt_a ch T b i = c then (Int32.ofNat 1, Int32.ofNat (i + 1)) else (Int32.ofNat 0, Int32.ofNat i)) := by
  have ef0 : (fits .boolean (.int (Int32.ofNat 0)) = true) = True := by decide
  have ef1 : (fits .boolean (.int (Int32.ofNat 1)) = true) = True := by decide
  have hE := hX.1
  have hTE := hK.2.1
  have ha := wt_a_lt hX hK i
  unfold wt_a at ha ⊢
  by_cases h : i < T
  · obtain ⟨_, _, _, _, _, _, _, _, g9, _⟩ := hK.1.2 i h
    rw [if_pos h] at ha ⊢
    by_cases e : ch (b i) = c
    · rw [if_pos e]
      rw [e] at g9
      simp (disch := omega) only [↓xf_wd_takes_44_s, ↓xf_wd_takes_29_s, ↓xf_wd_takes_28_s, ↓xf_wd_takes_s, wq_ltT, wq_ltF, wq_inT, wq_clamp, wq_eqF, wq_eqm, wq_meq, wq_add, wq_mul, wq_subT, eq_self, Bool.false_eq_true, ↓reduceIte, Option.bind_some, Sum.elim_inl, Sum.elim_inr, ↓wq_f0b, ↓wq_f1b, ↓wq_f2b, ↓wq_r0b, ↓wq_r1b, ↓Option.bind_some, g9, ef1]
    · rw [if_neg e]
      simp (disch := omega) only [↓xf_wd_takes_44_s, ↓xf_wd_takes_29_s, ↓xf_wd_takes_28_s, ↓xf_wd_takes_s, wq_ltT, wq_ltF, wq_inT, wq_clamp, wq_eqF, wq_eqm, wq_meq, wq_add, wq_mul, wq_subT, eq_self, Bool.false_eq_true, ↓reduceIte, Option.bind_some, Sum.elim_inl, Sum.elim_inr, ↓wq_f0b, ↓wq_f1b, ↓wq_f2b, ↓wq_r0b, ↓wq_r1b, ↓Option.bind_some, g9, ef0]
  · rw [if_neg h, if_neg (by omega)]
    simp (disch := omega) only [↓xf_wd_takes_44_s, ↓xf_wd_takes_29_s, ↓xf_wd_takes_28_s, ↓xf_wd_takes_s, wq_ltT, wq_ltF, wq_inT, wq_clamp, wq_eqF, wq_eqm, wq_meq, wq_add, wq_mul, wq_subT, eq_self, Bool.false_eq_true, ↓reduceIte, Option.bind_some, Sum.elim_inl, Sum.elim_inr, ↓wq_f0b, ↓wq_f1b, ↓wq_f2b, ↓wq_r0b, ↓wq_r1b, ↓Option.bind_some, ef0]
theorem wt_stands (hX : wt_X E ch signs text) (hK : wt_Tok ch E os T b st o begin_ end_ first digits) {i : Nat} (hi : i ≤ T) : xf_wd_standsAt begin_ (Int32.ofNat i) (Int32.ofNat E) (Int32.ofNat T) = some (Int32.ofNat (b i)) := by
  have hE := hX.1
  have hTE := hK.2.1
  by_cases h : i < T
  · obtain ⟨_, _, _, _, _, _, g7, _⟩ := hK.1.2 i h
    simp (disch := omega) only [↓xf_wd_standsAt_30_s, ↓xf_wd_standsAt_s, wq_ltT, wq_ltF, wq_inT, wq_clamp, wq_eqF, wq_eqm, wq_meq, wq_add, wq_mul, wq_subT, eq_self, Bool.false_eq_true, ↓reduceIte, Option.bind_some, Sum.elim_inl, Sum.elim_inr, ↓wq_f0b, ↓wq_f1b, ↓wq_f2b, ↓wq_r0b, ↓wq_r1b, ↓Option.bind_some, g7]
  · have e : i = T := by omega
    have eE : b i = E := by
      rw [e]
      exact hK.2.2.1
    simp (disch := omega) only [↓xf_wd_standsAt_30_s, ↓xf_wd_standsAt_s, wq_ltT, wq_ltF, wq_inT, wq_clamp, wq_eqF, wq_eqm, wq_meq, wq_add, wq_mul, wq_subT, eq_self, Bool.false_eq_true, ↓reduceIte, Option.bind_some, Sum.elim_inl, Sum.elim_inr, ↓wq_f0b, ↓wq_f1b, ↓wq_f2b, ↓wq_r0b, ↓wq_r1b, ↓Option.bind_some, eE]
theorem wt_more (hX : wt_X E ch signs text) (hK : wt_Tok ch E os T b st o begin_ end_ first digits) {i : Nat} (hi : i ≤ T) : xf_wd_more (Int32.ofNat i) (Int32.ofNat T) = some (Int32.ofNat (if i < T then 1 else 0)) := by
  have ef0 : (fits .boolean (.int (Int32.ofNat 0)) = true) = True := by decide
  have ef1 : (fits .boolean (.int (Int32.ofNat 1)) = true) = True := by decide
  have hE := hX.1
  have hTE := hK.2.1
  by_cases h : i < T
  · rw [if_pos h]
    simp (disch := omega) only [↓xf_wd_more_16_s, ↓xf_wd_more_s, wq_ltT, wq_ltF, wq_inT, wq_clamp, wq_eqF, wq_eqm, wq_meq, wq_add, wq_mul, wq_subT, eq_self, Bool.false_eq_true, ↓reduceIte, Option.bind_some, Sum.elim_inl, Sum.elim_inr, ↓wq_f0b, ↓wq_f1b, ↓wq_f2b, ↓wq_r0b, ↓wq_r1b, ↓Option.bind_some, ef1]
  · rw [if_neg h]
    simp (disch := omega) only [↓xf_wd_more_16_s, ↓xf_wd_more_s, wq_ltT, wq_ltF, wq_inT, wq_clamp, wq_eqF, wq_eqm, wq_meq, wq_add, wq_mul, wq_subT, eq_self, Bool.false_eq_true, ↓reduceIte, Option.bind_some, Sum.elim_inl, Sum.elim_inr, ↓wq_f0b, ↓wq_f1b, ↓wq_f2b, ↓wq_r0b, ↓wq_r1b, ↓Option.bind_some, ef0]
/-- a sign that is no letter, digit or quote is a word of its own -/
theorem wt_single (hK : wt_Tok ch E os T b st o begin_ end_ first digits) {i : Nat} (hi : i < T) (h1 : ¬ wt_lt (ch (b i)) = true) (h2 : ¬ wt_dg (ch (b i)) = true) (h3 : ch (b i) ≠ 39) : st (i + 1) = b i + 1 := by
  rw [(hK.1.2 i hi).2.2.2.2.1]
  unfold wt_e
  rw [if_neg (fun hh => h1 hh.2), if_neg h3, if_neg h2, if_neg h1]
  rfl
/-- the reference takes a sign -/
theorem wt_rsign (hX : wt_X E ch signs text) (hK : wt_Tok ch E os T b st o begin_ end_ first digits) {N : Nat} (hN : 1300 ≤ N) {i p c : Nat} (hi : i ≤ T) (h1 : st i ≤ p) (h2 : p ≤ b i) (hc : c < 2147483648) : xf_rf_sign (Int32.ofNat E) text N (Int32.ofNat p) (-1) (Int32.ofNat c) = some (if wt_a ch T b i = c then ((), Int32.ofNat (b i + 1), -1) else ((), Int32.ofNat (b i), Int32.ofNat (b i))) := by
  have pk := wt_peek hX hK hN hi h1 h2
  have ha := wt_a_lt hX hK i
  have m1 : ((-1 : Int32) = -1) = True := eq_true rfl
  by_cases e : wt_a ch T b i = c
  · rw [if_pos e]
    rw [e] at pk
    simp (disch := omega) only [↓xf_rf_sign_38_s, ↓xf_rf_sign_s, wq_ltT, wq_ltF, wq_inT, wq_clamp, wq_eqF, wq_eqm, wq_meq, wq_add, wq_mul, wq_subT, eq_self, Bool.false_eq_true, ↓reduceIte, Option.bind_some, Sum.elim_inl, Sum.elim_inr, ↓wq_f0b, ↓wq_f1b, ↓wq_f2b, ↓wq_r0b, ↓wq_r1b, ↓Option.bind_some, m1, ↓wq_b pk]
  · rw [if_neg e]
    simp (disch := omega) only [↓xf_rf_sign_38_s, ↓xf_rf_sign_s, ↓xf_rf_wrongAt_13_s, ↓xf_rf_wrongAt_s, wq_ltT, wq_ltF, wq_inT, wq_clamp, wq_eqF, wq_eqm, wq_meq, wq_add, wq_mul, wq_subT, eq_self, Bool.false_eq_true, ↓reduceIte, Option.bind_some, Sum.elim_inl, Sum.elim_inr, ↓wq_f0b, ↓wq_f1b, ↓wq_f2b, ↓wq_r0b, ↓wq_r1b, ↓Option.bind_some, m1, ↓wq_b pk]
theorem wt_rsign2 {N : Nat} {at_ f c : Int32} (hf : ¬ f = -1) : xf_rf_sign (Int32.ofNat E) text N at_ f c = some ((), at_, f) := by
  rw [xf_rf_sign_s, if_neg hf]
theorem wt_rL {c : Nat} (hc : c < 2147483648) : xf_rf_isLetter (Int32.ofNat c) = some (Int32.ofNat (if wt_lt c = true then 1 else 0)) := by
  have ef0 : (fits .boolean (.int (Int32.ofNat 0)) = true) = True := by decide
  have ef1 : (fits .boolean (.int (Int32.ofNat 1)) = true) = True := by decide
  by_cases h : 65 ≤ c ∧ c ≤ 90
  · rw [if_pos (wt_lt_iff.mpr h)]
    simp (disch := omega) only [↓xf_rf_isLetter_17_s, ↓xf_rf_isLetter_16_s, ↓xf_rf_isLetter_s, wq_ltT, wq_ltF, wq_inT, wq_clamp, wq_eqF, wq_eqm, wq_meq, wq_add, wq_mul, wq_subT, eq_self, Bool.false_eq_true, ↓reduceIte, Option.bind_some, Sum.elim_inl, Sum.elim_inr, ↓wq_f0b, ↓wq_f1b, ↓wq_f2b, ↓wq_r0b, ↓wq_r1b, ↓Option.bind_some, ef1]
  · rw [if_neg (fun hh => h (wt_lt_iff.mp hh))]
    by_cases h1 : c < 65
    · simp (disch := omega) only [↓xf_rf_isLetter_17_s, ↓xf_rf_isLetter_16_s, ↓xf_rf_isLetter_s, wq_ltT, wq_ltF, wq_inT, wq_clamp, wq_eqF, wq_eqm, wq_meq, wq_add, wq_mul, wq_subT, eq_self, Bool.false_eq_true, ↓reduceIte, Option.bind_some, Sum.elim_inl, Sum.elim_inr, ↓wq_f0b, ↓wq_f1b, ↓wq_f2b, ↓wq_r0b, ↓wq_r1b, ↓Option.bind_some, ef0]
    · simp (disch := omega) only [↓xf_rf_isLetter_17_s, ↓xf_rf_isLetter_16_s, ↓xf_rf_isLetter_s, wq_ltT, wq_ltF, wq_inT, wq_clamp, wq_eqF, wq_eqm, wq_meq, wq_add, wq_mul, wq_subT, eq_self, Bool.false_eq_true, ↓reduceIte, Option.bind_some, Sum.elim_inl, Sum.elim_inr, ↓wq_f0b, ↓wq_f1b, ↓wq_f2b, ↓wq_r0b, ↓wq_r1b, ↓Option.bind_some, ef0]
theorem wt_rD {c : Nat} (hc : c < 2147483648) : xf_rf_isDigit (Int32.ofNat c) = some (Int32.ofNat (if wt_dg c = true then 1 else 0)) := by
  have ef0 : (fits .boolean (.int (Int32.ofNat 0)) = true) = True := by decide
  have ef1 : (fits .boolean (.int (Int32.ofNat 1)) = true) = True := by decide
  by_cases h : 48 ≤ c ∧ c ≤ 57
  · rw [if_pos (wt_dg_iff.mpr h)]
    simp (disch := omega) only [↓xf_rf_isDigit_17_s, ↓xf_rf_isDigit_16_s, ↓xf_rf_isDigit_s, wq_ltT, wq_ltF, wq_inT, wq_clamp, wq_eqF, wq_eqm, wq_meq, wq_add, wq_mul, wq_subT, eq_self, Bool.false_eq_true, ↓reduceIte, Option.bind_some, Sum.elim_inl, Sum.elim_inr, ↓wq_f0b, ↓wq_f1b, ↓wq_f2b, ↓wq_r0b, ↓wq_r1b, ↓Option.bind_some, ef1]
  · rw [if_neg (fun hh => h (wt_dg_iff.mp hh))]
    by_cases h1 : c < 48
    · simp (disch := omega) only [↓xf_rf_isDigit_17_s, ↓xf_rf_isDigit_16_s, ↓xf_rf_isDigit_s, wq_ltT, wq_ltF, wq_inT, wq_clamp, wq_eqF, wq_eqm, wq_meq, wq_add, wq_mul, wq_subT, eq_self, Bool.false_eq_true, ↓reduceIte, Option.bind_some, Sum.elim_inl, Sum.elim_inr, ↓wq_f0b, ↓wq_f1b, ↓wq_f2b, ↓wq_r0b, ↓wq_r1b, ↓Option.bind_some, ef0]
    · simp (disch := omega) only [↓xf_rf_isDigit_17_s, ↓xf_rf_isDigit_16_s, ↓xf_rf_isDigit_s, wq_ltT, wq_ltF, wq_inT, wq_clamp, wq_eqF, wq_eqm, wq_meq, wq_add, wq_mul, wq_subT, eq_self, Bool.false_eq_true, ↓reduceIte, Option.bind_some, Sum.elim_inl, Sum.elim_inr, ↓wq_f0b, ↓wq_f1b, ↓wq_f2b, ↓wq_r0b, ↓wq_r1b, ↓Option.bind_some, ef0]
/-- the reference reads a name from s on into a row -/
theorem wt_rname23 (hX : wt_X E ch signs text) {N n1 to s : Nat} (hn1 : n1 < 100000) (hto : to + 8 ≤ n1) (hs : s ≤ E) (fault : Int32) : ∀ k p M (p1 : Nat → Int32), p + k = wt_end wt_lt ch E s → s ≤ p → k < M →
    ∃ p2, (∀ x, (∀ j, p ≤ s + j → s + j < wt_end wt_lt ch E s → j < 8 → x ≠ to + j) → p2 x = p1 x) ∧ (∀ j, p ≤ s + j → s + j < wt_end wt_lt ch E s → j < 8 → p2 (to + j) = Int32.ofNat (ch (s + j))) ∧
      xf_rf_name_23 (Int32.ofNat E) text n1 N M p1 (Int32.ofNat p) fault (Int32.ofNat s) (Int32.ofNat to) = xf_rf_name_98 (Int32.ofNat E) text n1 N p2 (Int32.ofNat (wt_end wt_lt ch E s)) fault (Int32.ofNat s) := by
  obtain ⟨hE, hch⟩ := hX
  obtain ⟨e1, e2, e3, e4⟩ := wt_end_le (P := wt_lt) (ch := ch) (E := E) (E - s) s (by omega)
  intro k
  induction k with
  | zero =>
    intro p M p1 hp hsp hM
    obtain ⟨M', rfl⟩ : ∃ M', M = M' + 1 := ⟨M - 1, by omega⟩
    refine ⟨p1, fun _ _ => rfl, fun j h1 h2 => absurd h2 (by omega), ?_⟩
    have ep : p = wt_end wt_lt ch E s := by omega
    by_cases hpE : p < E
    · obtain ⟨_, t1, t2, t3⟩ := hch p hpE
      have l1 := wt_rL (c := ch p) (by omega)
      rw [if_neg (by rw [ep]; exact e4 (by omega))] at l1
      rw [xf_rf_name_23_s]
      simp (disch := omega) only [wq_ltT, wq_ltF, wq_inT, wq_clamp, wq_eqF, wq_eqm, wq_meq, wq_add, wq_mul, wq_subT, eq_self, Bool.false_eq_true, ↓reduceIte, Option.bind_some, Sum.elim_inl, Sum.elim_inr, ↓wq_f0b, ↓wq_f1b, ↓wq_f2b, ↓wq_r0b, ↓wq_r1b, ↓Option.bind_some, t1, ↓wq_b l1]
      rw [ep]
    · rw [xf_rf_name_23_s]
      simp (disch := omega) only [wq_ltT, wq_ltF, wq_inT, wq_clamp, wq_eqF, wq_eqm, wq_meq, wq_add, wq_mul, wq_subT, eq_self, Bool.false_eq_true, ↓reduceIte, Option.bind_some, Sum.elim_inl, Sum.elim_inr, ↓wq_f0b, ↓wq_f1b, ↓wq_f2b, ↓wq_r0b, ↓wq_r1b, ↓Option.bind_some]
      rw [ep]
  | succ k ih =>
    intro p M p1 hp hsp hM
    obtain ⟨M', rfl⟩ : ∃ M', M = M' + 1 := ⟨M - 1, by omega⟩
    obtain ⟨_, t1, t2, t3⟩ := hch p (by omega)
    have l1 := wt_rL (c := ch p) (by omega)
    rw [if_pos (e3 p hsp (by omega))] at l1
    by_cases h8 : p - s < 8
    · obtain ⟨p2, i1, i2, i3⟩ := ih (p + 1) M' (upd p1 (to + p - s) (Int32.ofNat (ch p))) (by omega) (by omega) (by omega)
      refine ⟨p2, fun x hx => ?_, fun j h1 h2 h3 => ?_, ?_⟩
      · rw [i1 x (fun j h1 h2 h3 => hx j (by omega) h2 h3), wq_upd2]
        have := hx (p - s) (by omega) (by omega) h8
        omega
      · by_cases e : s + j = p
        · rw [i1 (to + j) (fun j' h4 h5 h6 => by omega), show to + p - s = to + j by omega, wq_upd1, e]
        · exact i2 j (by omega) h2 h3
      · rw [← i3, xf_rf_name_23_s]
        simp (disch := omega) only [↓xf_rf_name_85_s, wq_ltT, wq_ltF, wq_inT, wq_clamp, wq_eqF, wq_eqm, wq_meq, wq_add, wq_mul, wq_subT, eq_self, Bool.false_eq_true, ↓reduceIte, Option.bind_some, Sum.elim_inl, Sum.elim_inr, ↓wq_f0b, ↓wq_f1b, ↓wq_f2b, ↓wq_r0b, ↓wq_r1b, ↓Option.bind_some, t1, ↓wq_b l1]
    · obtain ⟨p2, i1, i2, i3⟩ := ih (p + 1) M' p1 (by omega) (by omega) (by omega)
      refine ⟨p2, fun x hx => i1 x (fun j h1 h2 h3 => by omega), fun j h1 h2 h3 => by omega, ?_⟩
      rw [← i3, xf_rf_name_23_s]
      simp (disch := omega) only [↓xf_rf_name_85_s, wq_ltT, wq_ltF, wq_inT, wq_clamp, wq_eqF, wq_eqm, wq_meq, wq_add, wq_mul, wq_subT, eq_self, Bool.false_eq_true, ↓reduceIte, Option.bind_some, Sum.elim_inl, Sum.elim_inr, ↓wq_f0b, ↓wq_f1b, ↓wq_f2b, ↓wq_r0b, ↓wq_r1b, ↓Option.bind_some, t1, ↓wq_b l1]
theorem wt_rname (hX : wt_X E ch signs text) (hK : wt_Tok ch E os T b st o begin_ end_ first digits) {N n1 to : Nat} (hN : 1300 ≤ N) (hn1 : n1 < 100000) (hto : to + 8 ≤ n1) {i p : Nat} (hi : i ≤ T) (h1 : st i ≤ p) (h2 : p ≤ b i) (p1 : Nat → Int32) (from_ : Int32) :
    ∃ p2, (∀ x, x < to ∨ to + 8 ≤ x → p2 x = p1 x) ∧ (∀ j, b i + j < wt_end wt_lt ch E (b i) → j < 8 → p2 (to + j) = Int32.ofNat (ch (b i + j))) ∧
      xf_rf_name (Int32.ofNat E) text n1 N p1 (Int32.ofNat p) (-1) from_ (Int32.ofNat to) = some (Int32.ofNat (wt_end wt_lt ch E (b i) - b i), p2, Int32.ofNat (wt_end wt_lt ch E (b i)), (if wt_end wt_lt ch E (b i) = b i ∨ 8 < wt_end wt_lt ch E (b i) - b i then Int32.ofNat (b i) else -1), Int32.ofNat (b i)) := by
  have hE := hX.1
  have hb := wt_b_le hK hi
  have pk := wt_peek hX hK hN hi h1 h2
  obtain ⟨e1, e2, _⟩ := wt_end_le (P := wt_lt) (ch := ch) (E := E) (E - b i) (b i) (by omega)
  obtain ⟨p2, i1, i2, i3⟩ := wt_rname23 (N := N) (n1 := n1) (to := to) hX hn1 hto hb (-1) (wt_end wt_lt ch E (b i) - b i) (b i) N p1 (by omega) (Nat.le_refl _) (by omega)
  have m1 : ((-1 : Int32) = -1) = True := eq_true rfl
  refine ⟨p2, fun x hx => i1 x (fun j _ _ h3 => by omega), fun j h3 h4 => i2 j (by omega) h3 h4, ?_⟩
  by_cases h0 : wt_end wt_lt ch E (b i) = b i
  · rw [if_pos (Or.inl h0)]
    rw [h0] at i3 ⊢
    simp (disch := omega) only [↓xf_rf_name_s, wq_ltT, wq_ltF, wq_inT, wq_clamp, wq_eqF, wq_eqm, wq_meq, wq_add, wq_mul, wq_subT, eq_self, Bool.false_eq_true, ↓reduceIte, Option.bind_some, Sum.elim_inl, Sum.elim_inr, ↓wq_f0b, ↓wq_f1b, ↓wq_f2b, ↓wq_r0b, ↓wq_r1b, ↓Option.bind_some, m1, ↓wq_b pk, i3, ↓xf_rf_name_98_s, ↓xf_rf_name_123_s, ↓xf_rf_name_131_s, ↓xf_rf_wrongAt_13_s, ↓xf_rf_wrongAt_s]
  · by_cases h8 : 8 < wt_end wt_lt ch E (b i) - b i
    · rw [if_pos (Or.inr h8)]
      simp (disch := omega) only [↓xf_rf_name_s, wq_ltT, wq_ltF, wq_inT, wq_clamp, wq_eqF, wq_eqm, wq_meq, wq_add, wq_mul, wq_subT, eq_self, Bool.false_eq_true, ↓reduceIte, Option.bind_some, Sum.elim_inl, Sum.elim_inr, ↓wq_f0b, ↓wq_f1b, ↓wq_f2b, ↓wq_r0b, ↓wq_r1b, ↓Option.bind_some, m1, ↓wq_b pk, i3, ↓xf_rf_name_98_s, ↓xf_rf_name_123_s, ↓xf_rf_name_131_s, ↓xf_rf_wrongAt_13_s, ↓xf_rf_wrongAt_s]
    · rw [if_neg (by omega)]
      simp (disch := omega) only [↓xf_rf_name_s, wq_ltT, wq_ltF, wq_inT, wq_clamp, wq_eqF, wq_eqm, wq_meq, wq_add, wq_mul, wq_subT, eq_self, Bool.false_eq_true, ↓reduceIte, Option.bind_some, Sum.elim_inl, Sum.elim_inr, ↓wq_f0b, ↓wq_f1b, ↓wq_f2b, ↓wq_r0b, ↓wq_r1b, ↓Option.bind_some, m1, ↓wq_b pk, i3, ↓xf_rf_name_98_s, ↓xf_rf_name_123_s, ↓xf_rf_name_131_s, ↓xf_rf_wrongAt_13_s, ↓xf_rf_wrongAt_s]
/-- the class reads a name -/
theorem wt_cname (hX : wt_X E ch signs text) (hK : wt_Tok ch E os T b st o begin_ end_ first digits) {N : Nat} (hN : 1300 ≤ N) {i : Nat} (hi : i ≤ T) (ho : o i = false) :
    (i < T ∧ wt_lt (ch (b i)) = true ∧ wt_end wt_lt ch E (b i) = st (i + 1) ∧ b i < st (i + 1) ∧ st (i + 1) - b i ≤ 8 ∧ xf_wd_nameAhead begin_ end_ first (Int32.ofNat i) (Int32.ofNat E) signs (Int32.ofNat T) N = some (wq_pack signs (b i) (st (i + 1) - b i))) ∨
    ((wt_end wt_lt ch E (b i) = b i ∨ 8 < wt_end wt_lt ch E (b i) - b i) ∧ xf_wd_nameAhead begin_ end_ first (Int32.ofNat i) (Int32.ofNat E) signs (Int32.ofNat T) N = some 0) := by
  have hE := hX.1
  have hTE := hK.2.1
  have ah := wt_ahead hX hK hi
  have ha := wt_a_lt hX hK i
  have al := wt_isL (c := wt_a ch T b i) (by omega)
  by_cases h : i < T
  · have ea : wt_a ch T b i = ch (b i) := if_pos h
    rw [ea] at ah ha al
    obtain ⟨g1, g2, g3, g4, g5, g6, g7, g8, g9, g10⟩ := hK.1.2 i h
    by_cases hl : wt_lt (ch (b i)) = true
    · rw [if_pos hl] at al
      have hlr := wt_lt_iff.mp hl
      have we : wt_e ch E (o i) (b i) = some (wt_end wt_lt ch E (b i)) := by
        unfold wt_e
        have d0 : ¬ wt_dg (ch (b i)) = true := fun hh => by
          have := wt_dg_iff.mp hh
          omega
        rw [ho, if_neg (fun hh => absurd hh.1 (by decide)), if_neg (by omega), if_neg d0, if_pos hl, wt_end1 g2 hl]
      rw [we] at g5 g8
      have g5' : st (i + 1) = wt_end wt_lt ch E (b i) := g5
      have g8' : end_ i = Int32.ofNat (wt_end wt_lt ch E (b i)) := g8
      obtain ⟨e1, e2, e3, _⟩ := wt_end_le (P := wt_lt) (ch := ch) (E := E) (E - (b i + 1)) (b i + 1) (by omega)
      rw [← wt_end1 g2 hl] at e1 e2
      by_cases h8 : 8 < wt_end wt_lt ch E (b i) - b i
      · refine Or.inr ⟨Or.inr h8, ?_⟩
        simp (disch := omega) only [↓xf_wd_nameAhead_s, ↓xf_wd_nameAhead_34_s, wq_ltT, wq_ltF, wq_inT, wq_clamp, wq_eqF, wq_eqm, wq_meq, wq_add, wq_mul, wq_subT, eq_self, Bool.false_eq_true, ↓reduceIte, Option.bind_some, Sum.elim_inl, Sum.elim_inr, ↓wq_f0b, ↓wq_f1b, ↓wq_f2b, ↓wq_r0b, ↓wq_r1b, ↓Option.bind_some, ↓wq_b ah, ↓wq_b al, g7, g8']
      · refine Or.inl ⟨h, hl, g5'.symm, by omega, by omega, ?_⟩
        have loop : ∀ k j M, j + k = wt_end wt_lt ch E (b i) → b i ≤ j → k < M → xf_wd_nameAhead_48 begin_ end_ first (Int32.ofNat i) (Int32.ofNat E) signs (Int32.ofNat T) N M (wq_pack signs (b i) (j - b i)) (Int32.ofNat j) = some (wq_pack signs (b i) (wt_end wt_lt ch E (b i) - b i)) := by
          intro k
          induction k with
          | zero =>
            intro j M hj hbj hM
            obtain ⟨M', rfl⟩ : ∃ M', M = M' + 1 := ⟨M - 1, by omega⟩
            have ej : j = wt_end wt_lt ch E (b i) := by omega
            rw [ej]
            simp (disch := omega) only [↓xf_wd_nameAhead_48_s, wq_ltT, wq_ltF, wq_inT, wq_clamp, wq_eqF, wq_eqm, wq_meq, wq_add, wq_mul, wq_subT, eq_self, Bool.false_eq_true, ↓reduceIte, Option.bind_some, Sum.elim_inl, Sum.elim_inr, ↓wq_f0b, ↓wq_f1b, ↓wq_f2b, ↓wq_r0b, ↓wq_r1b, ↓Option.bind_some, g8']
          | succ k ih =>
            intro j M hj hbj hM
            obtain ⟨M', rfl⟩ : ∃ M', M = M' + 1 := ⟨M - 1, by omega⟩
            have s1 := wt_sign hE (fun j hj => ⟨(hX.2 j hj).1, (hX.2 j hj).2.2⟩) (j := j) (by omega)
            have cj : wt_c ch E j = ch j := if_pos (by omega)
            rw [cj, ← (hX.2 j (by omega)).1] at s1
            have pk : xe_shl (wq_pack signs (b i) (j - b i)) (Int32.ofNat 8) ||| (signs j).toInt64 = wq_pack signs (b i) (j + 1 - b i) := by
              rw [show j + 1 - b i = j - b i + 1 by omega, wq_pack, show b i + (j - b i) = j by omega]
            rw [← ih (j + 1) M' (by omega) (by omega) (by omega), ← pk, xf_wd_nameAhead_48_s]
            simp (disch := omega) only [wq_ltT, wq_ltF, wq_inT, wq_clamp, wq_eqF, wq_eqm, wq_meq, wq_add, wq_mul, wq_subT, eq_self, Bool.false_eq_true, ↓reduceIte, Option.bind_some, Sum.elim_inl, Sum.elim_inr, ↓wq_f0b, ↓wq_f1b, ↓wq_f2b, ↓wq_r0b, ↓wq_r1b, ↓Option.bind_some, g8', ↓wq_b s1]
        have l0 := loop (wt_end wt_lt ch E (b i) - b i) (b i) N (by omega) (Nat.le_refl _) (by omega)
        rw [Nat.sub_self, wq_pack] at l0
        rw [g5']
        simp (disch := omega) only [↓xf_wd_nameAhead_s, wq_ltT, wq_ltF, wq_inT, wq_clamp, wq_eqF, wq_eqm, wq_meq, wq_add, wq_mul, wq_subT, eq_self, Bool.false_eq_true, ↓reduceIte, Option.bind_some, Sum.elim_inl, Sum.elim_inr, ↓wq_f0b, ↓wq_f1b, ↓wq_f2b, ↓wq_r0b, ↓wq_r1b, ↓Option.bind_some, ↓wq_b ah, ↓wq_b al, g7, g8', l0]
    · rw [if_neg hl] at al
      refine Or.inr ⟨Or.inl (wt_end2 g2 hl), ?_⟩
      simp (disch := omega) only [↓xf_wd_nameAhead_s, ↓xf_wd_nameAhead_34_s, wq_ltT, wq_ltF, wq_inT, wq_clamp, wq_eqF, wq_eqm, wq_meq, wq_add, wq_mul, wq_subT, eq_self, Bool.false_eq_true, ↓reduceIte, Option.bind_some, Sum.elim_inl, Sum.elim_inr, ↓wq_f0b, ↓wq_f1b, ↓wq_f2b, ↓wq_r0b, ↓wq_r1b, ↓Option.bind_some, ↓wq_b ah, ↓wq_b al]
  · have ea : wt_a ch T b i = 0 := if_neg h
    rw [ea] at ah al
    have l0 : ¬ wt_lt 0 = true := by decide
    rw [if_neg l0] at al
    have eb : b i = E := by
      rw [show i = T by omega]
      exact hK.2.2.1
    refine Or.inr ⟨Or.inl (wt_end3 (by omega)), ?_⟩
    simp (disch := omega) only [↓xf_wd_nameAhead_s, ↓xf_wd_nameAhead_34_s, wq_ltT, wq_ltF, wq_inT, wq_clamp, wq_eqF, wq_eqm, wq_meq, wq_add, wq_mul, wq_subT, eq_self, Bool.false_eq_true, ↓reduceIte, Option.bind_some, Sum.elim_inl, Sum.elim_inr, ↓wq_f0b, ↓wq_f1b, ↓wq_f2b, ↓wq_r0b, ↓wq_r1b, ↓Option.bind_some, ↓wq_b ah, ↓wq_b al]
end
