/-! WRONG. -/
def wq_mis (t g : Nat) (v may : Int32) : Bool := if t = 6 then decide (may = Int32.ofNat 0) else !(decide (t = g) || (decide (t = 3) && decide (v = Int32.ofNat 0) && decide (g = 4)))
theorem wq_takes {t g i k : Nat} {v may' : Int32} {may sort : Nat → Int32} (ht : t ≤ 6) (hg : g ≤ 5) (hs : sort (i * 8 + k) = Int32.ofNat g) (hm : may (i * 8 + k) = may') (hb : may' = Int32.ofNat 0 ∨ may' = Int32.ofNat 1) (hi : i * 8 + k < 96) :
    xf_kd_takesSort may sort (Int32.ofNat i) (Int32.ofNat k) (Int32.ofNat t) v = some (if wq_mis t g v may' = true then Int32.ofNat 0 else Int32.ofNat 1) := by
  have ef0 : (fits .boolean (.int (Int32.ofNat 0)) = true) = True := by decide
  have ef1 : (fits .boolean (.int (Int32.ofNat 1)) = true) = True := by decide
  unfold wq_mis
  by_cases h6 : t = 6
  · subst h6
    rcases hb with rfl | rfl
    · simp (disch := omega) only [↓xf_kd_takesSort_59_s, ↓xf_kd_takesSort_54_s, ↓xf_kd_takesSort_58_s, ↓xf_kd_takesSort_s, wq_ltT, wq_ltF, wq_inT, wq_clamp, wq_eqF, wq_eqm, wq_meq, wq_add, wq_mul, wq_subT, eq_self, Bool.false_eq_true, ↓reduceIte, Option.bind_some, Sum.elim_inl, Sum.elim_inr, ↓wq_f0b, ↓wq_f1b, ↓wq_f2b, ↓wq_r0b, ↓wq_r1b, ↓Option.bind_some, hm, ef0, decide_true]
    · simp (disch := omega) only [↓xf_kd_takesSort_59_s, ↓xf_kd_takesSort_54_s, ↓xf_kd_takesSort_58_s, ↓xf_kd_takesSort_s, wq_ltT, wq_ltF, wq_inT, wq_clamp, wq_eqF, wq_eqm, wq_meq, wq_add, wq_mul, wq_subT, eq_self, Bool.false_eq_true, ↓reduceIte, Option.bind_some, Sum.elim_inl, Sum.elim_inr, ↓wq_f0b, ↓wq_f1b, ↓wq_f2b, ↓wq_r0b, ↓wq_r1b, ↓Option.bind_some, hm, ef1, decide_false, Bool.false_eq_true]
  · by_cases hgt : t = g
    · subst hgt
      simp (disch := omega) only [↓xf_kd_takesSort_59_s, ↓xf_kd_takesSort_54_s, ↓xf_kd_takesSort_58_s, ↓xf_kd_takesSort_s, wq_ltT, wq_ltF, wq_inT, wq_clamp, wq_eqF, wq_eqm, wq_meq, wq_add, wq_mul, wq_subT, eq_self, Bool.false_eq_true, ↓reduceIte, Option.bind_some, Sum.elim_inl, Sum.elim_inr, ↓wq_f0b, ↓wq_f1b, ↓wq_f2b, ↓wq_r0b, ↓wq_r1b, ↓Option.bind_some, hs, ef1, h6, decide_true, Bool.true_or, Bool.not_true, Bool.false_eq_true]
    · by_cases h3 : t = 3
      · subst h3
        by_cases hv : v = Int32.ofNat 0
        · by_cases h4 : g = 4
          · subst h4
            simp (disch := omega) only [↓xf_kd_takesSort_59_s, ↓xf_kd_takesSort_54_s, ↓xf_kd_takesSort_58_s, ↓xf_kd_takesSort_s, wq_ltT, wq_ltF, wq_inT, wq_clamp, wq_eqF, wq_eqm, wq_meq, wq_add, wq_mul, wq_subT, eq_self, Bool.false_eq_true, ↓reduceIte, Option.bind_some, Sum.elim_inl, Sum.elim_inr, ↓wq_f0b, ↓wq_f1b, ↓wq_f2b, ↓wq_r0b, ↓wq_r1b, ↓Option.bind_some, hs, ef1, h6, hv, hgt, decide_true, decide_false, Bool.and_self, Bool.or_true, Bool.not_true, Bool.false_eq_true]
          · simp (disch := omega) only [↓xf_kd_takesSort_59_s, ↓xf_kd_takesSort_54_s, ↓xf_kd_takesSort_58_s, ↓xf_kd_takesSort_s, wq_ltT, wq_ltF, wq_inT, wq_clamp, wq_eqF, wq_eqm, wq_meq, wq_add, wq_mul, wq_subT, eq_self, Bool.false_eq_true, ↓reduceIte, Option.bind_some, Sum.elim_inl, Sum.elim_inr, ↓wq_f0b, ↓wq_f1b, ↓wq_f2b, ↓wq_r0b, ↓wq_r1b, ↓Option.bind_some, hs, ef0, h6, hv, hgt, h4, decide_true, decide_false, Bool.and_false, Bool.or_false, Bool.not_false]
        · simp (disch := omega) only [↓xf_kd_takesSort_59_s, ↓xf_kd_takesSort_54_s, ↓xf_kd_takesSort_58_s, ↓xf_kd_takesSort_s, wq_ltT, wq_ltF, wq_inT, wq_clamp, wq_eqF, wq_eqm, wq_meq, wq_add, wq_mul, wq_subT, eq_self, Bool.false_eq_true, ↓reduceIte, Option.bind_some, Sum.elim_inl, Sum.elim_inr, ↓wq_f0b, ↓wq_f1b, ↓wq_f2b, ↓wq_r0b, ↓wq_r1b, ↓Option.bind_some, hs, ef0, h6, hv, hgt, decide_true, decide_false, Bool.and_false, Bool.false_and, Bool.or_false, Bool.not_false]
      · simp (disch := omega) only [↓xf_kd_takesSort_59_s, ↓xf_kd_takesSort_54_s, ↓xf_kd_takesSort_58_s, ↓xf_kd_takesSort_s, wq_ltT, wq_ltF, wq_inT, wq_clamp, wq_eqF, wq_eqm, wq_meq, wq_add, wq_mul, wq_subT, eq_self, Bool.false_eq_true, ↓reduceIte, Option.bind_some, Sum.elim_inl, Sum.elim_inr, ↓wq_f0b, ↓wq_f1b, ↓wq_f2b, ↓wq_r0b, ↓wq_r1b, ↓Option.bind_some, hs, ef0, h6, h3, hgt, decide_true, decide_false, Bool.and_false, Bool.false_and, Bool.or_false, Bool.not_false]
theorem wq_fwstep {N M p i k t g z : Nat} {may kmay ksorts parts sorts values : Nat → Int32} (hp : p < 40) (hi : i < 12) (hk : k < z) (hz : z ≤ 8) (hpa : parts p = Int32.ofNat z) (ht : t ≤ 6) (hg : g ≤ 5) (hs : ksorts (8 * i + k) = Int32.ofNat g) (hso : sorts (8 * p + k) = Int32.ofNat t) :
    xf_rf_firstWrong_2 kmay ksorts parts sorts values N (M + 1) (Int32.ofNat p) (Int32.ofNat i) (Int32.ofNat k) = if wq_mis t g (values (8 * p + k)) (kmay (8 * i + k)) = true then some (Int32.ofNat k) else xf_rf_firstWrong_2 kmay ksorts parts sorts values N M (Int32.ofNat p) (Int32.ofNat i) (Int32.ofNat (k + 1)) := by
  unfold wq_mis
  by_cases h6 : t = 6
  · subst h6
    by_cases hb : kmay (8 * i + k) = Int32.ofNat 0
    · simp (disch := omega) only [xf_rf_firstWrong_2_s, xf_rf_firstWrong_64_s, xf_rf_firstWrong_65_s, xf_rf_firstWrong_97_s, xf_rf_firstWrong_98_s, xf_rf_firstWrong_124_s, wq_ltT, wq_ltF, wq_inT, wq_clamp, wq_eqF, wq_eqm, wq_meq, wq_add, wq_mul, wq_subT, eq_self, Bool.false_eq_true, ↓reduceIte, Option.bind_some, Sum.elim_inl, Sum.elim_inr, ↓wq_f0b, ↓wq_f1b, ↓wq_f2b, ↓wq_r0b, ↓wq_r1b, ↓Option.bind_some, hpa, hs, hso, hb, decide_true, ite_self]
    · simp (disch := omega) only [xf_rf_firstWrong_2_s, xf_rf_firstWrong_64_s, xf_rf_firstWrong_65_s, xf_rf_firstWrong_97_s, xf_rf_firstWrong_98_s, xf_rf_firstWrong_124_s, wq_ltT, wq_ltF, wq_inT, wq_clamp, wq_eqF, wq_eqm, wq_meq, wq_add, wq_mul, wq_subT, eq_self, Bool.false_eq_true, ↓reduceIte, Option.bind_some, Sum.elim_inl, Sum.elim_inr, ↓wq_f0b, ↓wq_f1b, ↓wq_f2b, ↓wq_r0b, ↓wq_r1b, ↓Option.bind_some, hpa, hs, hso, hb, decide_false, Bool.false_eq_true, ite_self]
  · by_cases hgt : t = g
    · subst hgt
      simp (disch := omega) only [xf_rf_firstWrong_2_s, xf_rf_firstWrong_64_s, xf_rf_firstWrong_65_s, xf_rf_firstWrong_97_s, xf_rf_firstWrong_98_s, xf_rf_firstWrong_124_s, wq_ltT, wq_ltF, wq_inT, wq_clamp, wq_eqF, wq_eqm, wq_meq, wq_add, wq_mul, wq_subT, eq_self, Bool.false_eq_true, ↓reduceIte, Option.bind_some, Sum.elim_inl, Sum.elim_inr, ↓wq_f0b, ↓wq_f1b, ↓wq_f2b, ↓wq_r0b, ↓wq_r1b, ↓Option.bind_some, hpa, hs, hso, h6, decide_true, Bool.true_or, Bool.not_true, Bool.false_eq_true, ite_self]
    · by_cases h3 : t = 3
      · subst h3
        by_cases h4 : g = 4
        · subst h4
          by_cases hv : values (8 * p + k) = Int32.ofNat 0
          · simp (disch := omega) only [xf_rf_firstWrong_2_s, xf_rf_firstWrong_64_s, xf_rf_firstWrong_65_s, xf_rf_firstWrong_97_s, xf_rf_firstWrong_98_s, xf_rf_firstWrong_124_s, wq_ltT, wq_ltF, wq_inT, wq_clamp, wq_eqF, wq_eqm, wq_meq, wq_add, wq_mul, wq_subT, eq_self, Bool.false_eq_true, ↓reduceIte, Option.bind_some, Sum.elim_inl, Sum.elim_inr, ↓wq_f0b, ↓wq_f1b, ↓wq_f2b, ↓wq_r0b, ↓wq_r1b, ↓Option.bind_some, hpa, hs, hso, h6, hv, hgt, decide_true, decide_false, Bool.and_self, Bool.or_true, Bool.not_true, Bool.false_eq_true, ite_self]
          · simp (disch := omega) only [xf_rf_firstWrong_2_s, xf_rf_firstWrong_64_s, xf_rf_firstWrong_65_s, xf_rf_firstWrong_97_s, xf_rf_firstWrong_98_s, xf_rf_firstWrong_124_s, wq_ltT, wq_ltF, wq_inT, wq_clamp, wq_eqF, wq_eqm, wq_meq, wq_add, wq_mul, wq_subT, eq_self, Bool.false_eq_true, ↓reduceIte, Option.bind_some, Sum.elim_inl, Sum.elim_inr, ↓wq_f0b, ↓wq_f1b, ↓wq_f2b, ↓wq_r0b, ↓wq_r1b, ↓Option.bind_some, hpa, hs, hso, h6, hv, hgt, decide_true, decide_false, Bool.and_false, Bool.false_and, Bool.or_false, Bool.not_false, ite_self]
        · simp (disch := omega) only [xf_rf_firstWrong_2_s, xf_rf_firstWrong_64_s, xf_rf_firstWrong_65_s, xf_rf_firstWrong_97_s, xf_rf_firstWrong_98_s, xf_rf_firstWrong_124_s, wq_ltT, wq_ltF, wq_inT, wq_clamp, wq_eqF, wq_eqm, wq_meq, wq_add, wq_mul, wq_subT, eq_self, Bool.false_eq_true, ↓reduceIte, Option.bind_some, Sum.elim_inl, Sum.elim_inr, ↓wq_f0b, ↓wq_f1b, ↓wq_f2b, ↓wq_r0b, ↓wq_r1b, ↓Option.bind_some, hpa, hs, hso, h6, hgt, h4, decide_true, decide_false, Bool.and_false, Bool.false_and, Bool.or_false, Bool.not_false, ite_self]
      · simp (disch := omega) only [xf_rf_firstWrong_2_s, xf_rf_firstWrong_64_s, xf_rf_firstWrong_65_s, xf_rf_firstWrong_97_s, xf_rf_firstWrong_98_s, xf_rf_firstWrong_124_s, wq_ltT, wq_ltF, wq_inT, wq_clamp, wq_eqF, wq_eqm, wq_meq, wq_add, wq_mul, wq_subT, eq_self, Bool.false_eq_true, ↓reduceIte, Option.bind_some, Sum.elim_inl, Sum.elim_inr, ↓wq_f0b, ↓wq_f1b, ↓wq_f2b, ↓wq_r0b, ↓wq_r1b, ↓Option.bind_some, hpa, hs, hso, h6, h3, hgt, decide_true, decide_false, Bool.and_false, Bool.false_and, Bool.or_false, Bool.not_false, ite_self]
section
variable {A : wp_A} {L : wp_L} {S : wp_A} {n R u : Nat} {o a z m : Nat → Nat} {t c s : Nat → Nat → Nat} {T : Nat} {y w : Nat → Nat}
/-- the kind of a line -/
def wq_kd (name : Nat → Int64) (names : Nat → Int32) (T m p : Nat) : Option Nat := wq_lst (fun i => decide (name i = wq_pack names (8 * p) m)) T 0
theorem wi_kd (h : wi_Model A L S n R u o a z m t c s) (hK : wi_K T y w (S 5 0) (L 6) (A 7) (A 8) (A 9) (A 60) (A 61) (A 62) (A 63) (A 64) (A 65)) {N p : Nat} (hN : 41 ≤ N) (hp : p < n) :
    xf_kd_find (L 6) (S 5 0) N (L 17 (o p)) = some (wq_or (fun i => i) (wq_kd (L 6) (A 69) T (m p) p)) ∧ xf_rf_kindOf (A 61) (A 62) (A 60) (A 68) (A 69) N (Int32.ofNat p) = some (wq_or (fun i => i) (wq_kd (L 6) (A 69) T (m p) p)) := by
  have hn := (wi_n h).1
  obtain ⟨_, _, _, _, r4⟩ := h.2.1.2.1 p hp
  obtain ⟨l1, l2, l3, l4⟩ := h.1.2.2.2.1 p hp
  refine ⟨?_, ?_⟩
  · rw [r4, hK.1.2.1]
    exact wq_kdfind hK.1.1 hN _
  · exact wq_kindOf hK hN (by omega) l3 l1 l4
theorem wq_kd_lt {name : Nat → Int64} {names : Nat → Int32} {T m p i : Nat} (h : wq_kd name names T m p = some i) : i < T := by
  have := (wq_lst_some T 0 i h).2.1
  omega
/-- the first argument that doesn't fit -/
def wq_fw (t : Nat → Nat) (sort : Nat → Int32) (values kmay : Nat → Int32) (i p : Nat) (k : Nat) : Bool := wq_mis (t k) (sort (8 * i + k)).toNatClampNeg (values (8 * p + k)) (kmay (8 * i + k))
theorem wi_fw (h : wi_Model A L S n R u o a z m t c s) (hK : wi_K T y w (S 5 0) (L 6) (A 7) (A 8) (A 9) (A 60) (A 61) (A 62) (A 63) (A 64) (A 65)) {N p i : Nat} (hN : 41 ≤ N) (hp : p < n) (hi : i < T) (hw : w i = z p) :
    ∀ l k M, k + l = z p → l < M → xf_xt_misfitOf_32 (A 9) (L 6) (A 8) (S 5 0) (L 17) (A 18) (A 20) (A 21) N M (Int32.ofNat (o p)) (Int32.ofNat i) (Int32.ofNat k) = some (wq_or (fun k => k) (wq_lst (wq_fw (t p) (A 64) (A 72) (A 65) i p) l k)) ∧ xf_rf_firstWrong_2 (A 65) (A 64) (A 70) (A 71) (A 72) N M (Int32.ofNat p) (Int32.ofNat i) (Int32.ofNat k) = some (wq_or (fun k => k) (wq_lst (wq_fw (t p) (A 64) (A 72) (A 65) i p) l k)) := by
  have hn := (wi_n h).1
  obtain ⟨r1, _⟩ := wi_row h p hp
  obtain ⟨_, _, _, r4, _⟩ := h.2.1.2.1 p hp
  obtain ⟨r5, r6, r7⟩ := h.1.2.2.2.2.1 p hp
  have hT := hK.1.1
  intro l
  induction l with
  | zero =>
    intro k M hk hM
    obtain ⟨M', rfl⟩ : ∃ M', M = M' + 1 := ⟨M - 1, by omega⟩
    refine ⟨?_, ?_⟩
    · simp (disch := omega) only [xf_xt_misfitOf_32_s, wq_ltT, wq_ltF, wq_inT, wq_clamp, wq_eqF, wq_eqm, wq_meq, wq_add, wq_mul, wq_subT, eq_self, Bool.false_eq_true, ↓reduceIte, Option.bind_some, Sum.elim_inl, Sum.elim_inr, ↓wq_f0b, ↓wq_f1b, ↓wq_f2b, ↓wq_r0b, ↓wq_r1b, ↓Option.bind_some, r4, wq_lst, wq_or]
    · simp (disch := omega) only [xf_rf_firstWrong_2_s, wq_ltT, wq_ltF, wq_inT, wq_clamp, wq_eqF, wq_eqm, wq_meq, wq_add, wq_mul, wq_subT, eq_self, Bool.false_eq_true, ↓reduceIte, Option.bind_some, Sum.elim_inl, Sum.elim_inr, ↓wq_f0b, ↓wq_f1b, ↓wq_f2b, ↓wq_r0b, ↓wq_r1b, ↓Option.bind_some, r5, wq_lst, wq_or]
  | succ l ih =>
    intro k M hk hM
    obtain ⟨M', rfl⟩ : ∃ M', M = M' + 1 := ⟨M - 1, by omega⟩
    obtain ⟨e1, e2⟩ := ih (k + 1) M' (by omega) (by omega)
    obtain ⟨f2, f3, _⟩ := h.2.1.2.2.2.1 p k hp (by omega)
    obtain ⟨f4, f5, _⟩ := h.1.2.2.2.2.2 p k hp (by omega)
    obtain ⟨⟨g, g1, g2⟩, g3, g4, g5⟩ := hK.2.2.2 i k hi (by omega)
    have tk := wq_takes (t := t p k) (g := g) (i := i) (k := k) (v := A 72 (8 * p + k)) (may := A 9) (sort := A 8) f5 g1 (by rw [g3, g2]) g4 g5 (by omega)
    have fw := wq_fwstep (N := N) (M := M') (may := A 9) (kmay := A 65) (values := A 72) (p := p) (i := i) (k := k) (t := t p k) (g := g) (z := z p) (by omega) (by omega) (by omega) r7 r5 f5 g1 g2 f4
    have ex : wq_fw (t p) (A 64) (A 72) (A 65) i p k = wq_mis (t p k) g (A 72 (8 * p + k)) (A 65 (8 * i + k)) := by
      unfold wq_fw
      rw [g2, wq_clamp (by omega)]
    by_cases hb : wq_mis (t p k) g (A 72 (8 * p + k)) (A 65 (8 * i + k)) = true
    · rw [if_pos hb] at tk fw
      refine ⟨?_, ?_⟩
      · simp (disch := omega) only [xf_xt_misfitOf_32_s, wq_ltT, wq_ltF, wq_inT, wq_clamp, wq_eqF, wq_eqm, wq_meq, wq_add, wq_mul, wq_subT, eq_self, Bool.false_eq_true, ↓reduceIte, Option.bind_some, Sum.elim_inl, Sum.elim_inr, ↓wq_f0b, ↓wq_f1b, ↓wq_f2b, ↓wq_r0b, ↓wq_r1b, ↓Option.bind_some, r4, f2, f3, tk, wq_lst, ex, hb, wq_or]
      · simp (disch := omega) only [fw, wq_lst, ex, hb, wq_or, ↓reduceIte]
    · rw [if_neg hb] at tk fw
      refine ⟨?_, ?_⟩
      · simp (disch := omega) only [xf_xt_misfitOf_32_s, wq_ltT, wq_ltF, wq_inT, wq_clamp, wq_eqF, wq_eqm, wq_meq, wq_add, wq_mul, wq_subT, eq_self, Bool.false_eq_true, ↓reduceIte, Option.bind_some, Sum.elim_inl, Sum.elim_inr, ↓wq_f0b, ↓wq_f1b, ↓wq_f2b, ↓wq_r0b, ↓wq_r1b, ↓Option.bind_some, r4, f2, f3, tk, wq_lst, ex, hb, e1]
      · simp (disch := omega) only [fw, wq_lst, ex, hb, e2, Bool.false_eq_true, ↓reduceIte]
end
/-- why a line is wrong, and where -/
def wq_why (k : Option Nat) (w : Nat → Nat) (z : Nat) (f : Nat → Option Nat) : Nat × Option Nat := match k with
  | none => (1, none)
  | some i => if w i = z then (match f i with
    | none => (0, none)
    | some j => (3, some j)) else (2, none)
theorem wi_why {A : wp_A} {L : wp_L} {S : wp_A} {n R u : Nat} {o a z m : Nat → Nat} {t c s : Nat → Nat → Nat} {T : Nat} {y w : Nat → Nat} (h : wi_Model A L S n R u o a z m t c s) (hK : wi_K T y w (S 5 0) (L 6) (A 7) (A 8) (A 9) (A 60) (A 61) (A 62) (A 63) (A 64) (A 65)) {N p : Nat} (hN : 41 ≤ N) (hp : p < n) : ∃ (y1 : Nat) (y2 : Option Nat), y1 ≤ 3 ∧ (∀ j, y2 = some j → j < 8) ∧
    xf_xt_whyWrong (A 9) (L 6) (A 7) (A 8) (S 5 0) (L 17) (A 18) (A 20) (A 21) N (Int32.ofNat (o p)) = some (Int32.ofNat y1) ∧
    (y1 ≠ 0 → xf_xt_misfitOf (A 9) (L 6) (A 8) (S 5 0) (L 17) (A 18) (A 20) (A 21) N (Int32.ofNat (o p)) (Int32.ofNat y1) = some (wq_or (fun k => k) y2)) ∧
    ∀ (M : Nat) (th : Int32) (what left : Nat), what < 2147483648 → left < 2147483648 → xf_rf_wrong_38 (A 61) (A 65) (A 62) (A 63) (A 64) (A 60) (A 68) (A 66) (A 69) (A 67) (A 70) (A 71) (A 72) N (M + 1) th (Int32.ofNat what) (Int32.ofNat left) (Int32.ofNat p) =
      if y1 = 0 then xf_rf_wrong_38 (A 61) (A 65) (A 62) (A 63) (A 64) (A 60) (A 68) (A 66) (A 69) (A 67) (A 70) (A 71) (A 72) N M th (Int32.ofNat what) (Int32.ofNat left) (Int32.ofNat (p + 1)) else
      if left = 0 then some (if what = 0 then A 67 p else if what = 1 then Int32.ofNat y1 else wq_or (fun k => k) y2, th) else xf_rf_wrong_38 (A 61) (A 65) (A 62) (A 63) (A 64) (A 60) (A 68) (A 66) (A 69) (A 67) (A 70) (A 71) (A 72) N M th (Int32.ofNat what) (Int32.ofNat (left - 1)) (Int32.ofNat (p + 1)) := by
  obtain ⟨hn, hn2, hn3⟩ := wi_n h
  obtain ⟨r1, _⟩ := wi_row h p hp
  obtain ⟨_, _, _, r4, _⟩ := h.2.1.2.1 p hp
  obtain ⟨r5, r6, r7⟩ := h.1.2.2.2.2.1 p hp
  have hT := hK.1.1
  obtain ⟨k1, k2⟩ := wi_kd h hK hN hp
  have em : ∀ left : Nat, left ≠ 0 → left < 2147483648 → Int32.ofNat left + (-1 : Int32) = Int32.ofNat (left - 1) := by
    intro left h0 h1
    have e : (-1 : Int32) = - Int32.ofNat 1 := by decide
    rw [e, ← Int32.sub_eq_add_neg, wq_subT (by omega) h1]
  cases hk : wq_kd (L 6) (A 69) T (m p) p with
  | none =>
    rw [hk] at k1 k2
    refine ⟨1, none, by omega, fun j hj => absurd hj (by simp), ?_, fun _ => ?_, ?_⟩
    · simp (disch := omega) only [↓xf_xt_whyWrong_62_s, ↓xf_xt_whyWrong_s, wq_ltT, wq_ltF, wq_inT, wq_clamp, wq_eqF, wq_eqm, wq_meq, wq_add, wq_mul, wq_subT, eq_self, Bool.false_eq_true, ↓reduceIte, Option.bind_some, Sum.elim_inl, Sum.elim_inr, ↓wq_f0b, ↓wq_f1b, ↓wq_f2b, ↓wq_r0b, ↓wq_r1b, ↓Option.bind_some, k1, wq_or]
    · simp (disch := omega) only [xf_xt_misfitOf_s, xf_xt_misfitOf_27_s, wq_ltT, wq_ltF, wq_inT, wq_clamp, wq_eqF, wq_eqm, wq_meq, wq_add, wq_mul, wq_subT, eq_self, Bool.false_eq_true, ↓reduceIte, Option.bind_some, Sum.elim_inl, Sum.elim_inr, ↓wq_f0b, ↓wq_f1b, ↓wq_f2b, ↓wq_r0b, ↓wq_r1b, ↓Option.bind_some, k1, wq_or]
    · intro M th what left hwh hle
      by_cases hl : left = 0
      · subst hl
        by_cases w0 : what = 0
        · subst w0
          simp (disch := omega) only [xf_rf_wrong_38_s, xf_rf_wrong_89_s, xf_rf_wrong_108_s, xf_rf_wrong_122_s, xf_rf_wrong_162_s, xf_rf_wrong_166_s, wq_ltT, wq_ltF, wq_inT, wq_clamp, wq_eqF, wq_eqm, wq_meq, wq_add, wq_mul, wq_subT, eq_self, Bool.false_eq_true, ↓reduceIte, Option.bind_some, Sum.elim_inl, Sum.elim_inr, ↓wq_f0b, ↓wq_f1b, ↓wq_f2b, ↓wq_r0b, ↓wq_r1b, ↓Option.bind_some, hn3, k2, wq_or]
          simp
        · by_cases w1 : what = 1
          · subst w1
            simp (disch := omega) only [xf_rf_wrong_38_s, xf_rf_wrong_89_s, xf_rf_wrong_108_s, xf_rf_wrong_122_s, xf_rf_wrong_162_s, xf_rf_wrong_166_s, wq_ltT, wq_ltF, wq_inT, wq_clamp, wq_eqF, wq_eqm, wq_meq, wq_add, wq_mul, wq_subT, eq_self, Bool.false_eq_true, ↓reduceIte, Option.bind_some, Sum.elim_inl, Sum.elim_inr, ↓wq_f0b, ↓wq_f1b, ↓wq_f2b, ↓wq_r0b, ↓wq_r1b, ↓Option.bind_some, hn3, k2, wq_or]
            simp
          · simp (disch := omega) only [xf_rf_wrong_38_s, xf_rf_wrong_89_s, xf_rf_wrong_108_s, xf_rf_wrong_122_s, xf_rf_wrong_162_s, xf_rf_wrong_166_s, wq_ltT, wq_ltF, wq_inT, wq_clamp, wq_eqF, wq_eqm, wq_meq, wq_add, wq_mul, wq_subT, eq_self, Bool.false_eq_true, ↓reduceIte, Option.bind_some, Sum.elim_inl, Sum.elim_inr, ↓wq_f0b, ↓wq_f1b, ↓wq_f2b, ↓wq_r0b, ↓wq_r1b, ↓Option.bind_some, hn3, k2, wq_or]
            simp [w0, w1]
      · simp (disch := omega) only [xf_rf_wrong_38_s, xf_rf_wrong_89_s, xf_rf_wrong_108_s, xf_rf_wrong_122_s, xf_rf_wrong_162_s, xf_rf_wrong_166_s, wq_ltT, wq_ltF, wq_inT, wq_clamp, wq_eqF, wq_eqm, wq_meq, wq_add, wq_mul, wq_subT, eq_self, Bool.false_eq_true, ↓reduceIte, Option.bind_some, Sum.elim_inl, Sum.elim_inr, ↓wq_f0b, ↓wq_f1b, ↓wq_f2b, ↓wq_r0b, ↓wq_r1b, ↓Option.bind_some, hn3, k2, wq_or, em]
        simp [hl]
  | some i =>
    rw [hk] at k1 k2
    have hi := wq_kd_lt hk
    obtain ⟨q1, q2, q3, q4⟩ := hK.2.2.1 i hi
    by_cases hw : w i = z p
    · obtain ⟨f1, f2⟩ := wi_fw h hK hN hp hi hw (z p) 0 N (by omega) (by omega)
      cases hf : wq_lst (wq_fw (t p) (A 64) (A 72) (A 65) i p) (z p) 0 with
      | none =>
        rw [hf] at f1 f2
        refine ⟨0, none, by omega, fun j hj => absurd hj (by simp), ?_, fun hh => absurd rfl hh, ?_⟩
        · simp (disch := omega) only [↓xf_xt_whyWrong_62_s, ↓xf_xt_whyWrong_s, xf_xt_misfitOf_s, wq_ltT, wq_ltF, wq_inT, wq_clamp, wq_eqF, wq_eqm, wq_meq, wq_add, wq_mul, wq_subT, eq_self, Bool.false_eq_true, ↓reduceIte, Option.bind_some, Sum.elim_inl, Sum.elim_inr, ↓wq_f0b, ↓wq_f1b, ↓wq_f2b, ↓wq_r0b, ↓wq_r1b, ↓Option.bind_some, k1, wq_or, q2, r4, hw, f1]
        · intro M th what left hwh hle
          simp (disch := omega) only [xf_rf_wrong_38_s, xf_rf_wrong_89_s, xf_rf_wrong_108_s, xf_rf_wrong_122_s, xf_rf_wrong_162_s, xf_rf_wrong_166_s, xf_rf_firstWrong_s, wq_ltT, wq_ltF, wq_inT, wq_clamp, wq_eqF, wq_eqm, wq_meq, wq_add, wq_mul, wq_subT, eq_self, Bool.false_eq_true, ↓reduceIte, Option.bind_some, Sum.elim_inl, Sum.elim_inr, ↓wq_f0b, ↓wq_f1b, ↓wq_f2b, ↓wq_r0b, ↓wq_r1b, ↓Option.bind_some, hn3, k2, wq_or, q1, r5, hw, f2]
      | some j =>
        rw [hf] at f1 f2
        have hj := (wq_lst_some _ _ _ hf).2.1
        refine ⟨3, some j, by omega, fun j' hj' => by have := Option.some.inj hj'; omega, ?_, fun _ => ?_, ?_⟩
        · simp (disch := omega) only [↓xf_xt_whyWrong_62_s, ↓xf_xt_whyWrong_s, xf_xt_misfitOf_s, wq_ltT, wq_ltF, wq_inT, wq_clamp, wq_eqF, wq_eqm, wq_meq, wq_add, wq_mul, wq_subT, eq_self, Bool.false_eq_true, ↓reduceIte, Option.bind_some, Sum.elim_inl, Sum.elim_inr, ↓wq_f0b, ↓wq_f1b, ↓wq_f2b, ↓wq_r0b, ↓wq_r1b, ↓Option.bind_some, k1, wq_or, q2, r4, hw, f1]
        · simp (disch := omega) only [xf_xt_misfitOf_s, wq_ltT, wq_ltF, wq_inT, wq_clamp, wq_eqF, wq_eqm, wq_meq, wq_add, wq_mul, wq_subT, eq_self, Bool.false_eq_true, ↓reduceIte, Option.bind_some, Sum.elim_inl, Sum.elim_inr, ↓wq_f0b, ↓wq_f1b, ↓wq_f2b, ↓wq_r0b, ↓wq_r1b, ↓Option.bind_some, k1, wq_or, f1]
        · intro M th what left hwh hle
          by_cases hl : left = 0
          · subst hl
            by_cases w0 : what = 0
            · subst w0
              simp (disch := omega) only [xf_rf_wrong_38_s, xf_rf_wrong_89_s, xf_rf_wrong_108_s, xf_rf_wrong_122_s, xf_rf_wrong_162_s, xf_rf_wrong_166_s, xf_rf_firstWrong_s, wq_ltT, wq_ltF, wq_inT, wq_clamp, wq_eqF, wq_eqm, wq_meq, wq_add, wq_mul, wq_subT, eq_self, Bool.false_eq_true, ↓reduceIte, Option.bind_some, Sum.elim_inl, Sum.elim_inr, ↓wq_f0b, ↓wq_f1b, ↓wq_f2b, ↓wq_r0b, ↓wq_r1b, ↓Option.bind_some, hn3, k2, wq_or, q1, r5, hw, f2]
              simp
            · by_cases w1 : what = 1
              · subst w1
                simp (disch := omega) only [xf_rf_wrong_38_s, xf_rf_wrong_89_s, xf_rf_wrong_108_s, xf_rf_wrong_122_s, xf_rf_wrong_162_s, xf_rf_wrong_166_s, xf_rf_firstWrong_s, wq_ltT, wq_ltF, wq_inT, wq_clamp, wq_eqF, wq_eqm, wq_meq, wq_add, wq_mul, wq_subT, eq_self, Bool.false_eq_true, ↓reduceIte, Option.bind_some, Sum.elim_inl, Sum.elim_inr, ↓wq_f0b, ↓wq_f1b, ↓wq_f2b, ↓wq_r0b, ↓wq_r1b, ↓Option.bind_some, hn3, k2, wq_or, q1, r5, hw, f2]
                simp
              · simp (disch := omega) only [xf_rf_wrong_38_s, xf_rf_wrong_89_s, xf_rf_wrong_108_s, xf_rf_wrong_122_s, xf_rf_wrong_162_s, xf_rf_wrong_166_s, xf_rf_firstWrong_s, wq_ltT, wq_ltF, wq_inT, wq_clamp, wq_eqF, wq_eqm, wq_meq, wq_add, wq_mul, wq_subT, eq_self, Bool.false_eq_true, ↓reduceIte, Option.bind_some, Sum.elim_inl, Sum.elim_inr, ↓wq_f0b, ↓wq_f1b, ↓wq_f2b, ↓wq_r0b, ↓wq_r1b, ↓Option.bind_some, hn3, k2, wq_or, q1, r5, hw, f2]
                simp [w0, w1]
          · simp (disch := omega) only [xf_rf_wrong_38_s, xf_rf_wrong_89_s, xf_rf_wrong_108_s, xf_rf_wrong_122_s, xf_rf_wrong_162_s, xf_rf_wrong_166_s, xf_rf_firstWrong_s, wq_ltT, wq_ltF, wq_inT, wq_clamp, wq_eqF, wq_eqm, wq_meq, wq_add, wq_mul, wq_subT, eq_self, Bool.false_eq_true, ↓reduceIte, Option.bind_some, Sum.elim_inl, Sum.elim_inr, ↓wq_f0b, ↓wq_f1b, ↓wq_f2b, ↓wq_r0b, ↓wq_r1b, ↓Option.bind_some, hn3, k2, wq_or, q1, r5, hw, f2, em]
            simp [hl]
    · refine ⟨2, none, by omega, fun j hj => absurd hj (by simp), ?_, fun _ => ?_, ?_⟩
      · simp (disch := omega) only [↓xf_xt_whyWrong_62_s, ↓xf_xt_whyWrong_s, wq_ltT, wq_ltF, wq_inT, wq_clamp, wq_eqF, wq_eqm, wq_meq, wq_add, wq_mul, wq_subT, eq_self, Bool.false_eq_true, ↓reduceIte, Option.bind_some, Sum.elim_inl, Sum.elim_inr, ↓wq_f0b, ↓wq_f1b, ↓wq_f2b, ↓wq_r0b, ↓wq_r1b, ↓Option.bind_some, k1, wq_or, q2, r4]
      · simp (disch := omega) only [xf_xt_misfitOf_s, xf_xt_misfitOf_27_s, wq_ltT, wq_ltF, wq_inT, wq_clamp, wq_eqF, wq_eqm, wq_meq, wq_add, wq_mul, wq_subT, eq_self, Bool.false_eq_true, ↓reduceIte, Option.bind_some, Sum.elim_inl, Sum.elim_inr, ↓wq_f0b, ↓wq_f1b, ↓wq_f2b, ↓wq_r0b, ↓wq_r1b, ↓Option.bind_some, k1, wq_or]
      · intro M th what left hwh hle
        by_cases hl : left = 0
        · subst hl
          by_cases w0 : what = 0
          · subst w0
            simp (disch := omega) only [xf_rf_wrong_38_s, xf_rf_wrong_89_s, xf_rf_wrong_108_s, xf_rf_wrong_122_s, xf_rf_wrong_162_s, xf_rf_wrong_166_s, wq_ltT, wq_ltF, wq_inT, wq_clamp, wq_eqF, wq_eqm, wq_meq, wq_add, wq_mul, wq_subT, eq_self, Bool.false_eq_true, ↓reduceIte, Option.bind_some, Sum.elim_inl, Sum.elim_inr, ↓wq_f0b, ↓wq_f1b, ↓wq_f2b, ↓wq_r0b, ↓wq_r1b, ↓Option.bind_some, hn3, k2, wq_or, q1, r5]
            simp
          · by_cases w1 : what = 1
            · subst w1
              simp (disch := omega) only [xf_rf_wrong_38_s, xf_rf_wrong_89_s, xf_rf_wrong_108_s, xf_rf_wrong_122_s, xf_rf_wrong_162_s, xf_rf_wrong_166_s, wq_ltT, wq_ltF, wq_inT, wq_clamp, wq_eqF, wq_eqm, wq_meq, wq_add, wq_mul, wq_subT, eq_self, Bool.false_eq_true, ↓reduceIte, Option.bind_some, Sum.elim_inl, Sum.elim_inr, ↓wq_f0b, ↓wq_f1b, ↓wq_f2b, ↓wq_r0b, ↓wq_r1b, ↓Option.bind_some, hn3, k2, wq_or, q1, r5]
              simp
            · simp (disch := omega) only [xf_rf_wrong_38_s, xf_rf_wrong_89_s, xf_rf_wrong_108_s, xf_rf_wrong_122_s, xf_rf_wrong_162_s, xf_rf_wrong_166_s, wq_ltT, wq_ltF, wq_inT, wq_clamp, wq_eqF, wq_eqm, wq_meq, wq_add, wq_mul, wq_subT, eq_self, Bool.false_eq_true, ↓reduceIte, Option.bind_some, Sum.elim_inl, Sum.elim_inr, ↓wq_f0b, ↓wq_f1b, ↓wq_f2b, ↓wq_r0b, ↓wq_r1b, ↓Option.bind_some, hn3, k2, wq_or, q1, r5]
              simp [w0, w1]
        · simp (disch := omega) only [xf_rf_wrong_38_s, xf_rf_wrong_89_s, xf_rf_wrong_108_s, xf_rf_wrong_122_s, xf_rf_wrong_162_s, xf_rf_wrong_166_s, wq_ltT, wq_ltF, wq_inT, wq_clamp, wq_eqF, wq_eqm, wq_meq, wq_add, wq_mul, wq_subT, eq_self, Bool.false_eq_true, ↓reduceIte, Option.bind_some, Sum.elim_inl, Sum.elim_inr, ↓wq_f0b, ↓wq_f1b, ↓wq_f2b, ↓wq_r0b, ↓wq_r1b, ↓Option.bind_some, hn3, k2, wq_or, q1, r5, em]
          simp [hl]
theorem wi_wrong {A : wp_A} {L : wp_L} {S : wp_A} {n R u : Nat} {o a z m : Nat → Nat} {t c s : Nat → Nat → Nat} {T : Nat} {y w : Nat → Nat} (h : wi_Model A L S n R u o a z m t c s) (hK : wi_K T y w (S 5 0) (L 6) (A 7) (A 8) (A 9) (A 60) (A 61) (A 62) (A 63) (A 64) (A 65)) {N what : Nat} (hN : 41 ≤ N) (hwh : what < 2147483648) (th : Int32) :
    ∀ k p left M, p + k = n → k < M → left < 2147483648 → ∃ v, xf_xt_wrong_26 (A 9) (L 6) (A 7) (A 8) (S 5 0) (S 15 1) (L 17) (A 16) (A 19) (A 18) (A 20) (A 21) N M (Int32.ofNat what) (Int32.ofNat left) (Int32.ofNat p) = some (.inl v) ∧ xf_rf_wrong_38 (A 61) (A 65) (A 62) (A 63) (A 64) (A 60) (A 68) (A 66) (A 69) (A 67) (A 70) (A 71) (A 72) N M th (Int32.ofNat what) (Int32.ofNat left) (Int32.ofNat p) = some (v, th) := by
  obtain ⟨hn, hn2, hn3⟩ := wi_n h
  intro k
  induction k with
  | zero =>
    intro p left M hp hM hle
    obtain ⟨M', rfl⟩ : ∃ M', M = M' + 1 := ⟨M - 1, by omega⟩
    refine ⟨-1, ?_, ?_⟩
    · simp (disch := omega) only [xf_xt_wrong_26_s, wq_ltT, wq_ltF, wq_inT, wq_clamp, wq_eqF, wq_eqm, wq_meq, wq_add, wq_mul, wq_subT, eq_self, Bool.false_eq_true, ↓reduceIte, Option.bind_some, Sum.elim_inl, Sum.elim_inr, ↓wq_f0b, ↓wq_f1b, ↓wq_f2b, ↓wq_r0b, ↓wq_r1b, ↓Option.bind_some, hn2]
    · simp (disch := omega) only [xf_rf_wrong_38_s, wq_ltT, wq_ltF, wq_inT, wq_clamp, wq_eqF, wq_eqm, wq_meq, wq_add, wq_mul, wq_subT, eq_self, Bool.false_eq_true, ↓reduceIte, Option.bind_some, Sum.elim_inl, Sum.elim_inr, ↓wq_f0b, ↓wq_f1b, ↓wq_f2b, ↓wq_r0b, ↓wq_r1b, ↓Option.bind_some, hn3]
  | succ k ih =>
    intro p left M hp hM hle
    obtain ⟨M', rfl⟩ : ∃ M', M = M' + 1 := ⟨M - 1, by omega⟩
    have hpn : p < n := by omega
    obtain ⟨y1, y2, g1, g2, g3, g4, g5⟩ := wi_why h hK hN hpn
    have g6 := g5 M' th what left hwh hle
    obtain ⟨r1, r2, r3⟩ := wi_row h p hpn
    have r4 := (wi_a h p hpn).1
    have e1 := wq_rowAt hn (fun p hp => (wi_row h p hp).2.1) hpn
    by_cases h0 : y1 = 0
    · obtain ⟨v, v1, v2⟩ := ih (p + 1) left M' (by omega) (by omega) hle
      refine ⟨v, ?_, ?_⟩
      · subst h0
        simp (disch := omega) only [xf_xt_wrong_26_s, xf_xt_wrong_100_s, xf_xt_wrong_111_s, wq_ltT, wq_ltF, wq_inT, wq_clamp, wq_eqF, wq_eqm, wq_meq, wq_add, wq_mul, wq_subT, eq_self, Bool.false_eq_true, ↓reduceIte, Option.bind_some, Sum.elim_inl, Sum.elim_inr, ↓wq_f0b, ↓wq_f1b, ↓wq_f2b, ↓wq_r0b, ↓wq_r1b, ↓Option.bind_some, hn2, e1, g3, Nat.sub_zero]
        rw [← hn2]
        exact v1
      · rw [g6, if_pos h0]
        exact v2
    · by_cases hl : left = 0
      · rw [if_neg h0, if_pos hl] at g6
        subst hl
        by_cases w0 : what = 0
        · subst w0
          rw [if_pos rfl, r4] at g6
          refine ⟨Int32.ofNat (a p), ?_, g6⟩
          simp (disch := omega) only [xf_xt_wrong_26_s, wq_ltT, wq_ltF, wq_inT, wq_clamp, wq_eqF, wq_eqm, wq_meq, wq_add, wq_mul, wq_subT, eq_self, Bool.false_eq_true, ↓reduceIte, Option.bind_some, Sum.elim_inl, Sum.elim_inr, ↓wq_f0b, ↓wq_f1b, ↓wq_f2b, ↓wq_r0b, ↓wq_r1b, ↓Option.bind_some, hn2, e1, g3, r3]
        · by_cases w1 : what = 1
          · subst w1
            rw [if_neg w0, if_pos rfl] at g6
            refine ⟨Int32.ofNat y1, ?_, g6⟩
            simp (disch := omega) only [xf_xt_wrong_26_s, xf_xt_wrong_99_s, wq_ltT, wq_ltF, wq_inT, wq_clamp, wq_eqF, wq_eqm, wq_meq, wq_add, wq_mul, wq_subT, eq_self, Bool.false_eq_true, ↓reduceIte, Option.bind_some, Sum.elim_inl, Sum.elim_inr, ↓wq_f0b, ↓wq_f1b, ↓wq_f2b, ↓wq_r0b, ↓wq_r1b, ↓Option.bind_some, hn2, e1, g3]
          · rw [if_neg w0, if_neg w1] at g6
            refine ⟨wq_or (fun k => k) y2, ?_, g6⟩
            simp (disch := omega) only [xf_xt_wrong_26_s, xf_xt_wrong_99_s, wq_ltT, wq_ltF, wq_inT, wq_clamp, wq_eqF, wq_eqm, wq_meq, wq_add, wq_mul, wq_subT, eq_self, Bool.false_eq_true, ↓reduceIte, Option.bind_some, Sum.elim_inl, Sum.elim_inr, ↓wq_f0b, ↓wq_f1b, ↓wq_f2b, ↓wq_r0b, ↓wq_r1b, ↓Option.bind_some, hn2, e1, g3, g4 h0]
      · obtain ⟨v, v1, v2⟩ := ih (p + 1) (left - 1) M' (by omega) (by omega) (by omega)
        refine ⟨v, ?_, ?_⟩
        · simp (disch := omega) only [xf_xt_wrong_26_s, xf_xt_wrong_100_s, xf_xt_wrong_111_s, wq_ltT, wq_ltF, wq_inT, wq_clamp, wq_eqF, wq_eqm, wq_meq, wq_add, wq_mul, wq_subT, eq_self, Bool.false_eq_true, ↓reduceIte, Option.bind_some, Sum.elim_inl, Sum.elim_inr, ↓wq_f0b, ↓wq_f1b, ↓wq_f2b, ↓wq_r0b, ↓wq_r1b, ↓Option.bind_some, hn2, e1, g3]
          rw [← hn2]
          exact v1
        · rw [g6, if_neg h0, if_neg hl]
          exact v2
theorem wc_12 {sc : Nat × (Nat → Int32)} {N : Nat} (hN : 41 ≤ N) : wp_Ok sc wi_I (xf_law_12 sc N) := by
  apply wp_red_12
  intro A L S x y hI
  obtain ⟨_, ⟨T, y', w, hK⟩, ⟨n, R, u, o, a, z, m, t, c, s, hm⟩, _⟩ := id hI
  rcases wq_sgn x with hx | ⟨k, hk, rfl⟩
  · have h1 : xf_la_wrong (A 9) (L 6) (A 7) (A 8) (S 5 0) (S 15 1) (L 17) (A 16) (A 19) (A 18) (A 20) (A 21) 1 N (L 77) x y = some (Int32.ofNat 1, L 77) := by
      simp (disch := omega) only [↓xf_la_wrong_s, xf_xt_wrong_s, xf_xt_wrong_17_s, xf_xt_wrong_18_s, ↓xf_xt_refuseUnless_s, wq_ltT, wq_ltF, wq_inT, wq_clamp, wq_eqF, wq_eqm, wq_meq, wq_add, wq_mul, wq_subT, eq_self, Bool.false_eq_true, ↓reduceIte, Option.bind_some, Sum.elim_inl, Sum.elim_inr, ↓wq_f0b, ↓wq_f1b, ↓wq_f2b, ↓wq_r0b, ↓wq_r1b, ↓Option.bind_some, hx]
    have h2 : xf_rf_wrong (A 61) (A 65) (A 62) (A 63) (A 64) (A 60) (A 68) (A 66) (A 69) (A 67) (A 70) (A 71) (A 72) N (S 57 0) x y = some (Int32.ofNat 0, Int32.ofNat 1) := by
      simp (disch := omega) only [xf_rf_wrong_s, xf_rf_wrong_19_s, xf_rf_wrong_24_s, wq_f1, wq_ltT, wq_ltF, wq_inT, wq_clamp, wq_eqF, wq_eqm, wq_meq, wq_add, wq_mul, wq_subT, eq_self, Bool.false_eq_true, ↓reduceIte, Option.bind_some, Sum.elim_inl, Sum.elim_inr, ↓wq_f0b, ↓wq_f1b, ↓wq_f2b, ↓wq_r0b, ↓wq_r1b, ↓Option.bind_some, hx]
    exact ⟨_, _, h1, h2, ⟨rfl, fun h => absurd h wq_ne1⟩, wi_out hI⟩
  · rcases wq_sgn y with hy | ⟨l, hl, rfl⟩
    · have h1 : xf_la_wrong (A 9) (L 6) (A 7) (A 8) (S 5 0) (S 15 1) (L 17) (A 16) (A 19) (A 18) (A 20) (A 21) 1 N (L 77) (Int32.ofNat k) y = some (Int32.ofNat 1, L 77) := by
        simp (disch := omega) only [↓xf_la_wrong_s, xf_xt_wrong_s, xf_xt_wrong_17_s, xf_xt_wrong_18_s, ↓xf_xt_refuseUnless_s, wq_ltT, wq_ltF, wq_inT, wq_clamp, wq_eqF, wq_eqm, wq_meq, wq_add, wq_mul, wq_subT, eq_self, Bool.false_eq_true, ↓reduceIte, Option.bind_some, Sum.elim_inl, Sum.elim_inr, ↓wq_f0b, ↓wq_f1b, ↓wq_f2b, ↓wq_r0b, ↓wq_r1b, ↓Option.bind_some, hy]
      have h2 : xf_rf_wrong (A 61) (A 65) (A 62) (A 63) (A 64) (A 60) (A 68) (A 66) (A 69) (A 67) (A 70) (A 71) (A 72) N (S 57 0) (Int32.ofNat k) y = some (Int32.ofNat 0, Int32.ofNat 1) := by
        simp (disch := omega) only [xf_rf_wrong_s, xf_rf_wrong_19_s, xf_rf_wrong_24_s, wq_f1, wq_ltT, wq_ltF, wq_inT, wq_clamp, wq_eqF, wq_eqm, wq_meq, wq_add, wq_mul, wq_subT, eq_self, Bool.false_eq_true, ↓reduceIte, Option.bind_some, Sum.elim_inl, Sum.elim_inr, ↓wq_f0b, ↓wq_f1b, ↓wq_f2b, ↓wq_r0b, ↓wq_r1b, ↓Option.bind_some, hy]
      exact ⟨_, _, h1, h2, ⟨rfl, fun h => absurd h wq_ne1⟩, wi_out hI⟩
    · by_cases h2l : 2 < l
      · have h1 : xf_la_wrong (A 9) (L 6) (A 7) (A 8) (S 5 0) (S 15 1) (L 17) (A 16) (A 19) (A 18) (A 20) (A 21) 1 N (L 77) (Int32.ofNat k) (Int32.ofNat l) = some (Int32.ofNat 1, L 77) := by
          simp (disch := omega) only [↓xf_la_wrong_s, xf_xt_wrong_s, xf_xt_wrong_17_s, xf_xt_wrong_18_s, ↓xf_xt_refuseUnless_s, wq_ltT, wq_ltF, wq_inT, wq_clamp, wq_eqF, wq_eqm, wq_meq, wq_add, wq_mul, wq_subT, eq_self, Bool.false_eq_true, ↓reduceIte, Option.bind_some, Sum.elim_inl, Sum.elim_inr, ↓wq_f0b, ↓wq_f1b, ↓wq_f2b, ↓wq_r0b, ↓wq_r1b, ↓Option.bind_some]
        have h2 : xf_rf_wrong (A 61) (A 65) (A 62) (A 63) (A 64) (A 60) (A 68) (A 66) (A 69) (A 67) (A 70) (A 71) (A 72) N (S 57 0) (Int32.ofNat k) (Int32.ofNat l) = some (Int32.ofNat 0, Int32.ofNat 1) := by
          simp (disch := omega) only [xf_rf_wrong_s, xf_rf_wrong_19_s, xf_rf_wrong_24_s, wq_f1, wq_ltT, wq_ltF, wq_inT, wq_clamp, wq_eqF, wq_eqm, wq_meq, wq_add, wq_mul, wq_subT, eq_self, Bool.false_eq_true, ↓reduceIte, Option.bind_some, Sum.elim_inl, Sum.elim_inr, ↓wq_f0b, ↓wq_f1b, ↓wq_f2b, ↓wq_r0b, ↓wq_r1b, ↓Option.bind_some]
        exact ⟨_, _, h1, h2, ⟨rfl, fun h => absurd h wq_ne1⟩, wi_out hI⟩
      · have hn := (wi_n hm).1
        obtain ⟨v, v1, v2⟩ := wi_wrong hm hK hN hl (Int32.ofNat 0) n 0 k N (by omega) (by omega) hk
        have h1 : xf_la_wrong (A 9) (L 6) (A 7) (A 8) (S 5 0) (S 15 1) (L 17) (A 16) (A 19) (A 18) (A 20) (A 21) 1 N (L 77) (Int32.ofNat k) (Int32.ofNat l) = some (Int32.ofNat 0, vp_updL (L 77) 0 v.toInt64) := by
          simp (disch := omega) only [↓xf_la_wrong_s, xf_xt_wrong_s, xf_xt_wrong_17_s, xf_xt_wrong_18_s, ↓xf_xt_refuseUnless_s, wq_ltT, wq_ltF, wq_inT, wq_clamp, wq_eqF, wq_eqm, wq_meq, wq_add, wq_mul, wq_subT, eq_self, Bool.false_eq_true, ↓reduceIte, Option.bind_some, Sum.elim_inl, Sum.elim_inr, ↓wq_f0b, ↓wq_f1b, ↓wq_f2b, ↓wq_r0b, ↓wq_r1b, ↓Option.bind_some, v1]
        have h2 : xf_rf_wrong (A 61) (A 65) (A 62) (A 63) (A 64) (A 60) (A 68) (A 66) (A 69) (A 67) (A 70) (A 71) (A 72) N (S 57 0) (Int32.ofNat k) (Int32.ofNat l) = some (v, Int32.ofNat 0) := by
          simp (disch := omega) only [xf_rf_wrong_s, xf_rf_wrong_19_s, xf_rf_wrong_24_s, wq_f0, wq_ltT, wq_ltF, wq_inT, wq_clamp, wq_eqF, wq_eqm, wq_meq, wq_add, wq_mul, wq_subT, eq_self, Bool.false_eq_true, ↓reduceIte, Option.bind_some, Sum.elim_inl, Sum.elim_inr, ↓wq_f0b, ↓wq_f1b, ↓wq_f2b, ↓wq_r0b, ↓wq_r1b, ↓Option.bind_some, v2]
        exact ⟨_, _, h1, h2, ⟨rfl, fun _ => wp_cmp _⟩, wi_out hI⟩
