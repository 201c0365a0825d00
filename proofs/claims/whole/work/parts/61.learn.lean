/-! THE CLASS LEARNS ITS GRAPH. -/
section
variable {n R u : Nat} {o a z m : Nat → Nat} {t c s : Nat → Nat → Nat} {rows used rl : Int32} {number : Nat → Int32} {name : Nat → Int64} {size order sort value start items names values ritems numbers letters parts sorts : Nat → Int32}
theorem wm_row (hM : wi_M n R u o a z m t c s rows (Int32.ofNat n) used number name size order sort value start items names values ritems) : ∀ p, p < n → o p < 40 ∧ order p = Int32.ofNat (o p) ∧ number (o p) = Int32.ofNat (a p) := by
  intro p hp
  obtain ⟨⟨h1, h2, _⟩, h3, _⟩ := hM
  obtain ⟨h4, h5, h6, _⟩ := h3 p hp
  exact ⟨by omega, h5, h6⟩
theorem wm_bitOf (hM : wi_M n R u o a z m t c s rows (Int32.ofNat n) used number name size order sort value start items names values ritems) (hV : wi_V n a z m t c rl numbers letters names parts sorts values ritems) {N : Nat} (hN : 41 ≤ N) {x : Int32} {q : Nat} (h : wq_fx a n x = some q) : xf_gr_bitOf (Int32.ofNat n) number order N x = some (xe_shl (1 : Int64) (Int32.ofNat (o q))) := by
  have hq := (wq_fx_some h).1
  have r1 := (wm_row hM q hq).1
  have e := wq_rowOf hV.1.1 (wm_row hM) hN x
  rw [h] at e
  simp (disch := omega) only [↓xf_gr_bitOf_21_s, ↓xf_gr_bitOf_s, wq_ltT, wq_ltF, wq_inT, wq_clamp, wq_eqF, wq_eqm, wq_meq, wq_add, wq_mul, wq_subT, eq_self, Bool.false_eq_true, ↓reduceIte, Option.bind_some, Sum.elim_inl, Sum.elim_inr, ↓wq_f0b, ↓wq_f1b, ↓wq_f2b, ↓wq_r0b, ↓wq_r1b, ↓Option.bind_some, e, wq_or]
/-- the references of one argument, from the i-th on -/
theorem wm_bits79 (hM : wi_M n R u o a z m t c s rows (Int32.ofNat n) used number name size order sort value start items names values ritems) (hV : wi_V n a z m t c rl numbers letters names parts sorts values ritems) {N : Nat} (hN : 41 ≤ N) {p k : Nat} (hp : p < n) (hk : k < z p) (h4 : t p k = 4) (k5 : Int32 → Int64 → Int32 → Option Int64) : ∀ l i M (x : Int64), i + l = wq_rc (t p k) (c p k) → l < M →
    ∃ x', (∀ j, j < 64 → (wq_bit x' j = true ↔ (wq_bit x j = true ∨ ∃ i', i ≤ i' ∧ i' < wq_rc (t p k) (c p k) ∧ o (wq_tg a n (t p k) (values (8 * p + k)) (fun i => ritems (20 * (8 * p + k) + i)) i') = j))) ∧
      xf_gr_bitsOf_79 items (Int32.ofNat n) number order size sort start used value k5 N M (Int32.ofNat (o p)) x (Int32.ofNat k) (Int32.ofNat (o p * 8 + k)) (Int32.ofNat i) = k5 (Int32.ofNat (o p)) x' (Int32.ofNat (k + 1)) := by
  have hn := hV.1.1
  have hz := (hV.2.2.2.2.1 p hp).2.2
  have r1 := (wm_row hM p hp).1
  have f3 := (hM.2.2.2.1 p k hp hk).2.1
  obtain ⟨w8, w9, _⟩ := (hV.2.2.2.2.2 p k hp hk).2.2.2.2.2.2.2.1 h4
  have hrc : wq_rc (t p k) (c p k) = c p k := by
    unfold wq_rc
    rw [if_neg (by omega), if_pos h4]
  intro l
  induction l with
  | zero =>
    intro i M x hi hM'
    obtain ⟨M', rfl⟩ : ∃ M', M = M' + 1 := ⟨M - 1, by omega⟩
    refine ⟨x, fun j _ => ⟨fun h => Or.inl h, fun h => ?_⟩, ?_⟩
    · rcases h with h | ⟨i', h1, h2, _⟩
      · exact h
      · exact absurd h2 (by omega)
    · simp (disch := omega) only [xf_gr_bitsOf_79_s, xf_gr_bitsOf_118_s, wq_ltT, wq_ltF, wq_inT, wq_clamp, wq_eqF, wq_eqm, wq_meq, wq_add, wq_mul, wq_subT, eq_self, Bool.false_eq_true, ↓reduceIte, Option.bind_some, Sum.elim_inl, Sum.elim_inr, ↓wq_f0b, ↓wq_f1b, ↓wq_f2b, ↓wq_r0b, ↓wq_r1b, ↓Option.bind_some, f3, w8]
  | succ l ih =>
    intro i M x hi hM'
    obtain ⟨M', rfl⟩ : ∃ M', M = M' + 1 := ⟨M - 1, by omega⟩
    have hir : i < wq_rc (t p k) (c p k) := by omega
    obtain ⟨g1, _, g3⟩ := wq_tg_lt hV hp hk hir
    rw [if_neg (by omega : ¬ t p k = 2)] at g3
    have e1 := wq_itemAt hM hV hp hk (i := i) (by omega)
    have e2 := wm_bitOf hM hV hN g3
    have r2 := (wm_row hM _ g1).1
    obtain ⟨x', b1, b2⟩ := ih (i + 1) M' (x ||| xe_shl (1 : Int64) (Int32.ofNat (o (wq_tg a n (t p k) (values (8 * p + k)) (fun i => ritems (20 * (8 * p + k) + i)) i)))) (by omega) (by omega)
    refine ⟨x', fun j hj => ?_, ?_⟩
    · rw [b1 j hj, wq_bit_or, wq_bit1 (by omega) hj, Bool.or_eq_true, decide_eq_true_eq]
      constructor
      · rintro ((h | h) | ⟨i', h1, h2, h3⟩)
        · exact Or.inl h
        · exact Or.inr ⟨i, Nat.le_refl i, by omega, h.symm⟩
        · exact Or.inr ⟨i', by omega, h2, h3⟩
      · rintro (h | ⟨i', h1, h2, h3⟩)
        · exact Or.inl (Or.inl h)
        · by_cases e : i' = i
          · subst e
            exact Or.inl (Or.inr h3.symm)
          · exact Or.inr ⟨i', by omega, h2, h3⟩
    · rw [← b2]
      simp (disch := omega) only [xf_gr_bitsOf_79_s, wq_ltT, wq_ltF, wq_inT, wq_clamp, wq_eqF, wq_eqm, wq_meq, wq_add, wq_mul, wq_subT, eq_self, Bool.false_eq_true, ↓reduceIte, Option.bind_some, Sum.elim_inl, Sum.elim_inr, ↓wq_f0b, ↓wq_f1b, ↓wq_f2b, ↓wq_r0b, ↓wq_r1b, ↓Option.bind_some, f3, w8, e1, e2]
theorem wm_bits (hM : wi_M n R u o a z m t c s rows (Int32.ofNat n) used number name size order sort value start items names values ritems) (hV : wi_V n a z m t c rl numbers letters names parts sorts values ritems) {N : Nat} (hN : 41 ≤ N) {p : Nat} (hp : p < n) : ∃ x, xf_gr_bitsOf items (Int32.ofNat n) number order size sort start used value N (Int32.ofNat (o p)) = some x ∧ ∀ j, j < 64 → (wq_bit x j = true ↔ ∃ q, q < n ∧ j = o q ∧ wi_ref a z t c values ritems p q) := by
  have hn := hV.1.1
  have hz := (hV.2.2.2.2.1 p hp).2.2
  have r1 := (wm_row hM p hp).1
  have r4 := (hM.2.1 p hp).2.2.2.1
  rw [xf_gr_bitsOf_s]
  suffices H : ∀ l k M (x : Int64), k + l = z p → l < M → ∃ x', (∀ j, j < 64 → (wq_bit x' j = true ↔ (wq_bit x j = true ∨ ∃ k' i', k ≤ k' ∧ k' < z p ∧ i' < wq_rc (t p k') (c p k') ∧ o (wq_tg a n (t p k') (values (8 * p + k')) (fun i => ritems (20 * (8 * p + k') + i)) i') = j))) ∧
      xf_gr_bitsOf_5 items (Int32.ofNat n) number order size sort start used value N M (Int32.ofNat (o p)) x (Int32.ofNat k) = some x' by
    obtain ⟨x, h1, h2⟩ := H (z p) 0 N 0 (by omega) (by omega)
    refine ⟨x, h2, fun j hj => ?_⟩
    rw [h1 j hj, wq_bit0]
    constructor
    · rintro (h | ⟨k', i', _, g2, g3, g4⟩)
      · exact absurd h (by decide)
      · have g := (wq_tg_lt hV hp g2 g3).1
        exact ⟨_, g, g4.symm, (wq_ref_iff hV hp g).mpr ⟨k', i', g2, g3, rfl⟩⟩
    · rintro ⟨q, q1, q2, q3⟩
      obtain ⟨k', i', g1, g2, g3⟩ := (wq_ref_iff hV hp q1).mp q3
      exact Or.inr ⟨k', i', by omega, g1, g2, by rw [g3]; exact q2.symm⟩
  intro l
  induction l with
  | zero =>
    intro k M x hk hM'
    obtain ⟨M', rfl⟩ : ∃ M', M = M' + 1 := ⟨M - 1, by omega⟩
    refine ⟨x, fun j _ => ⟨fun h => Or.inl h, fun h => ?_⟩, ?_⟩
    · rcases h with h | ⟨k', i', h1, h2, _⟩
      · exact h
      · exact absurd h2 (by omega)
    · simp (disch := omega) only [xf_gr_bitsOf_5_s, wq_ltT, wq_ltF, wq_inT, wq_clamp, wq_eqF, wq_eqm, wq_meq, wq_add, wq_mul, wq_subT, eq_self, Bool.false_eq_true, ↓reduceIte, Option.bind_some, Sum.elim_inl, Sum.elim_inr, ↓wq_f0b, ↓wq_f1b, ↓wq_f2b, ↓wq_r0b, ↓wq_r1b, ↓Option.bind_some, r4]
  | succ l ih =>
    intro k M x hk hM'
    obtain ⟨M', rfl⟩ : ∃ M', M = M' + 1 := ⟨M - 1, by omega⟩
    have hkz : k < z p := by omega
    obtain ⟨f2, f3, _⟩ := hM.2.2.2.1 p k hp hkz
    have ht := (hV.2.2.2.2.2 p k hp hkz).2.1
    have hc := (hV.2.2.2.2.2 p k hp hkz).2.2.1
    have join : ∀ x1 : Int64, (∀ j, j < 64 → (wq_bit x1 j = true ↔ (wq_bit x j = true ∨ ∃ i', i' < wq_rc (t p k) (c p k) ∧ o (wq_tg a n (t p k) (values (8 * p + k)) (fun i => ritems (20 * (8 * p + k) + i)) i') = j))) → xf_gr_bitsOf_5 items (Int32.ofNat n) number order size sort start used value N (M' + 1) (Int32.ofNat (o p)) x (Int32.ofNat k) = xf_gr_bitsOf_5 items (Int32.ofNat n) number order size sort start used value N M' (Int32.ofNat (o p)) x1 (Int32.ofNat (k + 1)) → ∃ x', (∀ j, j < 64 → (wq_bit x' j = true ↔ (wq_bit x j = true ∨ ∃ k' i', k ≤ k' ∧ k' < z p ∧ i' < wq_rc (t p k') (c p k') ∧ o (wq_tg a n (t p k') (values (8 * p + k')) (fun i => ritems (20 * (8 * p + k') + i)) i') = j))) ∧
      xf_gr_bitsOf_5 items (Int32.ofNat n) number order size sort start used value N (M' + 1) (Int32.ofNat (o p)) x (Int32.ofNat k) = some x' := by
      intro x1 a1 a2
      obtain ⟨x2, b1, b2⟩ := ih (k + 1) M' x1 (by omega) (by omega)
      refine ⟨x2, fun j hj => ?_, by rw [a2]; exact b2⟩
      rw [b1 j hj, a1 j hj]
      constructor
      · rintro ((h | ⟨i', h2, h3⟩) | ⟨k', i', h1, h2, h3, h4⟩)
        · exact Or.inl h
        · exact Or.inr ⟨k, i', Nat.le_refl k, by omega, h2, h3⟩
        · exact Or.inr ⟨k', i', by omega, h2, h3, h4⟩
      · rintro (h | ⟨k', i', h1, h2, h3, h4⟩)
        · exact Or.inl (Or.inl h)
        · by_cases e : k' = k
          · subst e
            exact Or.inl (Or.inr ⟨i', h3, h4⟩)
          · exact Or.inr ⟨k', i', by omega, h2, h3, h4⟩
    by_cases h2 : t p k = 2
    · have hrc : wq_rc (t p k) (c p k) = 1 := by
        unfold wq_rc
        rw [if_pos h2]
      obtain ⟨g1, _, g3⟩ := wq_tg_lt hV hp hkz (i := 0) (by omega)
      rw [if_pos h2] at g3
      have r2 := (wm_row hM _ g1).1
      have e2 := wm_bitOf hM hV hN g3
      refine join (x ||| xe_shl (1 : Int64) (Int32.ofNat (o (wq_tg a n (t p k) (values (8 * p + k)) (fun i => ritems (20 * (8 * p + k) + i)) 0)))) (fun j hj => ?_) ?_
      · rw [wq_bit_or, wq_bit1 (by omega) hj, Bool.or_eq_true, decide_eq_true_eq]
        constructor
        · rintro (h | h)
          · exact Or.inl h
          · exact Or.inr ⟨0, by omega, h.symm⟩
        · rintro (h | ⟨i', h1, h3⟩)
          · exact Or.inl h
          · have e : i' = 0 := by omega
            subst e
            exact Or.inr h3.symm
      · simp (disch := omega) only [xf_gr_bitsOf_5_s, xf_gr_bitsOf_118_s, wq_ltT, wq_ltF, wq_inT, wq_clamp, wq_eqF, wq_eqm, wq_meq, wq_add, wq_mul, wq_subT, eq_self, Bool.false_eq_true, ↓reduceIte, Option.bind_some, Sum.elim_inl, Sum.elim_inr, ↓wq_f0b, ↓wq_f1b, ↓wq_f2b, ↓wq_r0b, ↓wq_r1b, ↓Option.bind_some, r4, f2, h2, f3, e2]
    · by_cases h4 : t p k = 4
      · have hrc : wq_rc (t p k) (c p k) ≤ 20 := by
          unfold wq_rc
          rw [if_neg h2, if_pos h4]
          exact hc
        obtain ⟨x1, a1, a2⟩ := wm_bits79 hM hV hN hp hkz h4 (xf_gr_bitsOf_5 items (Int32.ofNat n) number order size sort start used value N M') (wq_rc (t p k) (c p k)) 0 N x (by omega) (by omega)
        refine join x1 (fun j hj => (a1 j hj).trans ?_) ?_
        · constructor
          · rintro (h | ⟨i', _, h1, h3⟩)
            · exact Or.inl h
            · exact Or.inr ⟨i', h1, h3⟩
          · rintro (h | ⟨i', h1, h3⟩)
            · exact Or.inl h
            · exact Or.inr ⟨i', by omega, h1, h3⟩
        · rw [← a2]
          simp (disch := omega) only [xf_gr_bitsOf_5_s, wq_ltT, wq_ltF, wq_inT, wq_clamp, wq_eqF, wq_eqm, wq_meq, wq_add, wq_mul, wq_subT, eq_self, Bool.false_eq_true, ↓reduceIte, Option.bind_some, Sum.elim_inl, Sum.elim_inr, ↓wq_f0b, ↓wq_f1b, ↓wq_f2b, ↓wq_r0b, ↓wq_r1b, ↓Option.bind_some, r4, f2, h4]
      · have hrc : wq_rc (t p k) (c p k) = 0 := by
          unfold wq_rc
          rw [if_neg h2, if_neg h4]
        refine join x (fun j hj => ⟨fun h => Or.inl h, ?_⟩) ?_
        · rintro (h | ⟨i', h1, _⟩)
          · exact h
          · exact absurd h1 (by omega)
        · simp (disch := omega) only [xf_gr_bitsOf_5_s, xf_gr_bitsOf_118_s, wq_ltT, wq_ltF, wq_inT, wq_clamp, wq_eqF, wq_eqm, wq_meq, wq_add, wq_mul, wq_subT, eq_self, Bool.false_eq_true, ↓reduceIte, Option.bind_some, Sum.elim_inl, Sum.elim_inr, ↓wq_f0b, ↓wq_f1b, ↓wq_f2b, ↓wq_r0b, ↓wq_r1b, ↓Option.bind_some, r4, f2, h2, h4]
end
/-! ways through more and more lines -/
section
variable {n : Nat} {o : Nat → Nat} {r : Nat → Nat → Prop} {order : Nat → Int32}
theorem wm_reach24 (hn : n ≤ 40) (ho : ∀ p, p < n → o p < 40 ∧ order p = Int32.ofNat (o p)) (hi : ∀ p q, p < n → q < n → o p = o q → p = q) {N d : Nat} (hd : d < n) (k2 : (Nat → Int64) → Int32 → Option (Unit × (Nat → Int64))) (w0 : Nat → Int64) : ∀ k q M (w : Nat → Int64), q + k = n → k < M → (∀ p, p < n → ∀ j, j < 64 → wq_bit (w (o p)) j = (wq_bit (w0 (o p)) j || (decide (p < q) && (wq_bit (w0 (o p)) (o d) && wq_bit (w0 (o d)) j)))) →
    ∃ w', (∀ p, p < n → ∀ j, j < 64 → wq_bit (w' (o p)) j = (wq_bit (w0 (o p)) j || (wq_bit (w0 (o p)) (o d) && wq_bit (w0 (o d)) j))) ∧ xf_gr_reachFurther_24 (Int32.ofNat n) order k2 N M w (Int32.ofNat d) (Int32.ofNat (o d)) (Int32.ofNat q) = k2 w' (Int32.ofNat (d + 1)) := by
  intro k
  induction k with
  | zero =>
    intro q M w hq hM hw
    obtain ⟨M', rfl⟩ : ∃ M', M = M' + 1 := ⟨M - 1, by omega⟩
    refine ⟨w, fun p hp j hj => ?_, ?_⟩
    · rw [hw p hp j hj, decide_eq_true (show p < q by omega), Bool.true_and]
    · simp (disch := omega) only [xf_gr_reachFurther_24_s, wq_ltT, wq_ltF, wq_inT, wq_clamp, wq_eqF, wq_eqm, wq_meq, wq_add, wq_mul, wq_subT, eq_self, Bool.false_eq_true, ↓reduceIte, Option.bind_some, Sum.elim_inl, Sum.elim_inr, ↓wq_f0b, ↓wq_f1b, ↓wq_f2b, ↓wq_r0b, ↓wq_r1b, ↓Option.bind_some]
  | succ k ih =>
    intro q M w hq hM hw
    obtain ⟨M', rfl⟩ : ∃ M', M = M' + 1 := ⟨M - 1, by omega⟩
    have hqn : q < n := by omega
    have r1 := (ho q hqn).1
    have r2 := (ho d hd).1
    have e1 := wq_rowAt hn (fun p hp => (ho p hp).2) hqn
    have b0 : wq_bit (w (o q)) (o d) = wq_bit (w0 (o q)) (o d) := by
      rw [hw q hqn (o d) (by omega), decide_eq_false (show ¬ q < q by omega), Bool.false_and, Bool.or_false]
    have bd : ∀ j, j < 64 → wq_bit (w (o d)) j = wq_bit (w0 (o d)) j := by
      intro j hj
      rw [hw d hd j hj]
      cases wq_bit (w0 (o d)) j <;> simp
    cases hb : wq_bit (w0 (o q)) (o d) with
    | false =>
      rw [hb] at b0
      obtain ⟨w', i1, i2⟩ := ih (q + 1) M' w (by omega) (by omega) (fun p hp j hj => by
        rw [hw p hp j hj]
        by_cases e : p = q
        · rw [e, hb]
          simp
        · have : decide (p < q) = decide (p < q + 1) := decide_eq_decide.mpr (by omega)
          rw [this])
      refine ⟨w', i1, ?_⟩
      rw [← i2]
      simp (disch := omega) only [xf_gr_reachFurther_24_s, xf_gr_reachFurther_77_s, wq_ltT, wq_ltF, wq_inT, wq_clamp, wq_eqF, wq_eqm, wq_meq, wq_add, wq_mul, wq_subT, eq_self, Bool.false_eq_true, ↓reduceIte, Option.bind_some, Sum.elim_inl, Sum.elim_inr, ↓wq_f0b, ↓wq_f1b, ↓wq_f2b, ↓wq_r0b, ↓wq_r1b, ↓Option.bind_some, e1, wq_cmp0, wq_tu, b0]
    | true =>
      rw [hb] at b0
      have et : (true = false) = False := by decide
      obtain ⟨w', i1, i2⟩ := ih (q + 1) M' (vp_updL w (o q) (w (o q) ||| w (o d))) (by omega) (by omega) (fun p hp j hj => by
        by_cases e : p = q
        · rw [e, wq_lupd1, wq_bit_or, bd j hj, hw q hqn j hj, hb, decide_eq_false (show ¬ q < q by omega), decide_eq_true (show q < q + 1 by omega), Bool.false_and, Bool.or_false, Bool.true_and, Bool.true_and]
        · have : decide (p < q) = decide (p < q + 1) := decide_eq_decide.mpr (by omega)
          rw [wq_lupd2 (fun hh => e (hi p q hp hqn hh)), hw p hp j hj, this])
      refine ⟨w', i1, ?_⟩
      rw [← i2]
      simp (disch := omega) only [xf_gr_reachFurther_24_s, xf_gr_reachFurther_77_s, wq_ltT, wq_ltF, wq_inT, wq_clamp, wq_eqF, wq_eqm, wq_meq, wq_add, wq_mul, wq_subT, eq_self, Bool.false_eq_true, ↓reduceIte, Option.bind_some, Sum.elim_inl, Sum.elim_inr, ↓wq_f0b, ↓wq_f1b, ↓wq_f2b, ↓wq_r0b, ↓wq_r1b, ↓Option.bind_some, e1, wq_cmp0, wq_tu, b0, et]
theorem wm_reach (hn : n ≤ 40) (ho : ∀ p, p < n → o p < 40 ∧ order p = Int32.ofNat (o p)) (hi : ∀ p q, p < n → q < n → o p = o q → p = q) {N : Nat} (hN : 41 ≤ N) (w0 : Nat → Int64) (h0 : ∀ p, p < n → ∀ j, j < 64 → (wq_bit (w0 (o p)) j = true ↔ ∃ q, q < n ∧ j = o q ∧ r p q)) :
    ∃ w', (∀ p, p < n → ∀ j, j < 64 → (wq_bit (w' (o p)) j = true ↔ ∃ q, q < n ∧ j = o q ∧ wi_way n r p q)) ∧ xf_gr_reachFurther (Int32.ofNat n) order N w0 = some ((), w') := by
  rw [xf_gr_reachFurther_s]
  suffices H : ∀ k d M (w : Nat → Int64), d + k = n → k < M → (∀ p q, p < n → q < n → r p q → wq_bit (w (o p)) (o q) = true) → (∀ p, p < n → ∀ j, j < 64 → wq_bit (w (o p)) j = true → ∃ q, q < n ∧ j = o q ∧ wi_way n r p q) → (∀ p i q, p < n → i < d → q < n → wq_bit (w (o p)) (o i) = true → wq_bit (w (o i)) (o q) = true → wq_bit (w (o p)) (o q) = true) →
      ∃ w', (∀ p, p < n → ∀ j, j < 64 → (wq_bit (w' (o p)) j = true ↔ ∃ q, q < n ∧ j = o q ∧ wi_way n r p q)) ∧ xf_gr_reachFurther_2 (Int32.ofNat n) order N M w (Int32.ofNat d) = some ((), w') by
    refine H n 0 N w0 (by omega) (by omega) (fun p q hp hq hr => (h0 p hp (o q) (by have := (ho q hq).1; omega)).mpr ⟨q, hq, rfl, hr⟩) (fun p hp j hj hb => ?_) (fun p i q _ hi => absurd hi (by omega))
    obtain ⟨q, h1, h2, h3⟩ := (h0 p hp j hj).mp hb
    exact ⟨q, h1, h2, wi_way_one hp h1 h3⟩
  intro k
  induction k with
  | zero =>
    intro d M w hd hM h1 h2 h3
    obtain ⟨M', rfl⟩ : ∃ M', M = M' + 1 := ⟨M - 1, by omega⟩
    refine ⟨w, fun p hp j hj => ⟨h2 p hp j hj, ?_⟩, ?_⟩
    · rintro ⟨q, q1, q2, q3⟩
      rw [q2]
      exact (wi_way_ind (P := fun q => wq_bit (w (o p)) (o q) = true) q3 (fun s hs hr => h1 p s hp hs hr) (fun x y hx hy hb hr => h3 p x y hp (by omega) hy hb (h1 x y hx hy hr))).2
    · simp (disch := omega) only [xf_gr_reachFurther_2_s, wq_ltT, wq_ltF, wq_inT, wq_clamp, wq_eqF, wq_eqm, wq_meq, wq_add, wq_mul, wq_subT, eq_self, Bool.false_eq_true, ↓reduceIte, Option.bind_some, Sum.elim_inl, Sum.elim_inr, ↓wq_f0b, ↓wq_f1b, ↓wq_f2b, ↓wq_r0b, ↓wq_r1b, ↓Option.bind_some]
  | succ k ih =>
    intro d M w hd hM h1 h2 h3
    obtain ⟨M', rfl⟩ : ∃ M', M = M' + 1 := ⟨M - 1, by omega⟩
    have hdn : d < n := by omega
    have rd := (ho d hdn).1
    have e1 := wq_rowAt hn (fun p hp => (ho p hp).2) hdn
    obtain ⟨w', a1, a2⟩ := wm_reach24 hn ho hi (N := N) hdn (xf_gr_reachFurther_2 (Int32.ofNat n) order N M') w n 0 N w (by omega) (by omega) (fun p hp j hj => by
      rw [decide_eq_false (show ¬ p < 0 by omega), Bool.false_and, Bool.or_false])
    have b1 : ∀ p q, p < n → q < n → (wq_bit (w' (o p)) (o q) = true ↔ (wq_bit (w (o p)) (o q) = true ∨ (wq_bit (w (o p)) (o d) = true ∧ wq_bit (w (o d)) (o q) = true))) := by
      intro p q hp hq
      have rq := (ho q hq).1
      rw [a1 p hp (o q) (by omega), Bool.or_eq_true, Bool.and_eq_true]
    obtain ⟨w2, i1, i2⟩ := ih (d + 1) M' w' (by omega) (by omega) (fun p q hp hq hr => (b1 p q hp hq).mpr (Or.inl (h1 p q hp hq hr))) (fun p hp j hj hb => by
      rw [a1 p hp j hj, Bool.or_eq_true, Bool.and_eq_true] at hb
      rcases hb with hb | ⟨hb1, hb2⟩
      · exact h2 p hp j hj hb
      · obtain ⟨q, q1, q2, q3⟩ := h2 d hdn j hj hb2
        obtain ⟨d', d1, d2, d3⟩ := h2 p hp (o d) (by omega) hb1
        have := hi d d' hdn d1 d2
        subst this
        refine ⟨q, q1, q2, ?_⟩
        exact (wi_way_ind (P := fun y => wi_way n r p y) q3 (fun s hs hr => wi_way_step hs d3 hr) (fun x y hx hy hb hr => wi_way_step hy hb hr)).2) (fun p i q hp hid hq g1 g2 => by
      have hin : i < n := by omega
      rw [b1 p i hp hin] at g1
      rw [b1 i q hin hq] at g2
      rw [b1 p q hp hq]
      by_cases e : i = d
      · subst e
        rcases g1 with g1 | ⟨g1, _⟩
        · rcases g2 with g2 | ⟨_, g2⟩
          · exact Or.inr ⟨g1, g2⟩
          · exact Or.inr ⟨g1, g2⟩
        · rcases g2 with g2 | ⟨_, g2⟩
          · exact Or.inr ⟨g1, g2⟩
          · exact Or.inr ⟨g1, g2⟩
      · have hlt : i < d := by omega
        rcases g1 with g1 | ⟨g1, g3⟩
        · rcases g2 with g2 | ⟨g2, g4⟩
          · exact Or.inl (h3 p i q hp hlt hq g1 g2)
          · exact Or.inr ⟨h3 p i d hp hlt hdn g1 g2, g4⟩
        · rcases g2 with g2 | ⟨g2, g4⟩
          · exact Or.inr ⟨g1, h3 d i q hdn hlt hq g3 g2⟩
          · exact Or.inr ⟨g1, g4⟩)
    refine ⟨w2, i1, ?_⟩
    rw [← i2, ← a2]
    simp (disch := omega) only [xf_gr_reachFurther_2_s, wq_ltT, wq_ltF, wq_inT, wq_clamp, wq_eqF, wq_eqm, wq_meq, wq_add, wq_mul, wq_subT, eq_self, Bool.false_eq_true, ↓reduceIte, Option.bind_some, Sum.elim_inl, Sum.elim_inr, ↓wq_f0b, ↓wq_f1b, ↓wq_f2b, ↓wq_r0b, ↓wq_r1b, ↓Option.bind_some, e1]
end
/-- one less, -1 for 0 -/
def wq_pr (d : Nat) : Int32 := if d = 0 then -1 else Int32.ofNat (d - 1)
theorem wq_pr1 {d : Nat} (h : d < 2147483648) : Int32.ofNat 1 + wq_pr d = Int32.ofNat d := by
  unfold wq_pr
  by_cases e : d = 0
  · subst e
    decide
  · rw [if_neg e, wq_add, show 1 + (d - 1) = d by omega]
theorem wq_bitnot (x : Int64) {j : Nat} (hj : j < 64) : wq_bit (x ^^^ (-1 : Int64)) j = !wq_bit x j := by
  unfold wq_bit
  have e : (-1 : Int64).toBitVec = BitVec.allOnes 64 := by decide
  rw [Int64.toBitVec_xor, BitVec.getLsbD_xor, e, BitVec.getLsbD_allOnes, decide_eq_true hj, Bool.xor_true]
theorem wq_sub0 (x y : Int64) : ((x &&& (y ^^^ (-1 : Int64))) = (0 : Int64)) ↔ ∀ j, j < 64 → wq_bit x j = true → wq_bit y j = true := by
  constructor
  · intro h j hj hx
    have := congrArg (fun x => wq_bit x j) h
    have h2 : wq_bit (x &&& (y ^^^ (-1 : Int64))) j = wq_bit 0 j := this
    rw [wq_bit_and, hx, wq_bitnot y hj, wq_bit0, Bool.true_and] at h2
    cases hy : wq_bit y j with
    | false =>
      rw [hy] at h2
      exact absurd h2 (by decide)
    | true => rfl
  · intro h
    apply wq_bit_ext
    intro j hj
    rw [wq_bit_and, wq_bitnot y hj, wq_bit0]
    cases hx : wq_bit x j with
    | false => rfl
    | true => rw [h j hj hx]; rfl
section
variable {n : Nat} {o : Nat → Nat} {r : Nat → Nat → Prop} {order : Nat → Int32} {direct : Nat → Int64}
theorem wm_deepest (hn : n ≤ 40) {p : Nat} (hd : ∀ j, j < 64 → (wq_bit (direct (o p)) j = true ↔ ∃ q, q < n ∧ j = o q ∧ r p q)) (ho : ∀ p, p < n → o p < 40) (hi : ∀ p q, p < n → q < n → o p = o q → p = q) {depth : Nat → Int32} (hk : ∀ q, q < n → r p q → ∃ e, e < n ∧ depth (o q) = Int32.ofNat e) {N : Nat} (hN : 41 ≤ N) :
    ∃ d, d ≤ n ∧ (∀ q, q < n → r p q → ∃ e, e < d ∧ depth (o q) = Int32.ofNat e) ∧ (d = 0 ∨ ∃ q, q < n ∧ r p q ∧ depth (o q) = Int32.ofNat (d - 1)) ∧ xf_gr_deepestOf depth N (direct (o p)) = some (wq_pr d) := by
  rw [xf_gr_deepestOf_s]
  suffices H : ∀ k j M d, j + k = 40 → k < M → d ≤ n → (∀ q, q < n → o q < j → r p q → ∃ e, e < d ∧ depth (o q) = Int32.ofNat e) → (d = 0 ∨ ∃ q, q < n ∧ r p q ∧ depth (o q) = Int32.ofNat (d - 1)) →
      ∃ d', d' ≤ n ∧ (∀ q, q < n → r p q → ∃ e, e < d' ∧ depth (o q) = Int32.ofNat e) ∧ (d' = 0 ∨ ∃ q, q < n ∧ r p q ∧ depth (o q) = Int32.ofNat (d' - 1)) ∧ xf_gr_deepestOf_5 depth N M (direct (o p)) (wq_pr d) (Int32.ofNat j) = some (wq_pr d') from H 40 0 N 0 (by omega) (by omega) (by omega) (fun q _ hq => absurd hq (by omega)) (Or.inl rfl)
  intro k
  induction k with
  | zero =>
    intro j M d hj hM hdn h1 h2
    obtain ⟨M', rfl⟩ : ∃ M', M = M' + 1 := ⟨M - 1, by omega⟩
    refine ⟨d, hdn, fun q hq hr => h1 q hq (by have := ho q hq; omega) hr, h2, ?_⟩
    simp (disch := omega) only [xf_gr_deepestOf_5_s, wq_ltT, wq_ltF, wq_inT, wq_clamp, wq_eqF, wq_eqm, wq_meq, wq_add, wq_mul, wq_subT, eq_self, Bool.false_eq_true, ↓reduceIte, Option.bind_some, Sum.elim_inl, Sum.elim_inr, ↓wq_f0b, ↓wq_f1b, ↓wq_f2b, ↓wq_r0b, ↓wq_r1b, ↓Option.bind_some]
  | succ k ih =>
    intro j M d hj hM hdn h1 h2
    obtain ⟨M', rfl⟩ : ∃ M', M = M' + 1 := ⟨M - 1, by omega⟩
    have hdj := hd j (by omega)
    cases hb : wq_bit (direct (o p)) j with
    | false =>
      obtain ⟨d', i1, i2, i3, i4⟩ := ih (j + 1) M' d (by omega) (by omega) hdn (fun q hq hqj hr => by
        by_cases e : o q = j
        · have := hdj.mpr ⟨q, hq, e.symm, hr⟩
          rw [hb] at this
          exact absurd this (by decide)
        · exact h1 q hq (by omega) hr) h2
      refine ⟨d', i1, i2, i3, ?_⟩
      rw [← i4]
      simp (disch := omega) only [xf_gr_deepestOf_5_s, xf_gr_deepestOf_35_s, wq_ltT, wq_ltF, wq_inT, wq_clamp, wq_eqF, wq_eqm, wq_meq, wq_add, wq_mul, wq_subT, eq_self, Bool.false_eq_true, ↓reduceIte, Option.bind_some, Sum.elim_inl, Sum.elim_inr, ↓wq_f0b, ↓wq_f1b, ↓wq_f2b, ↓wq_r0b, ↓wq_r1b, ↓Option.bind_some, wq_cmp0, wq_tu, hb]
    | true =>
      have et : (true = false) = False := by decide
      obtain ⟨q, q1, q2, q3⟩ := hdj.mp hb
      obtain ⟨e, e1, e2⟩ := hk q q1 q3
      rw [← q2] at e2
      by_cases hde : d < e + 1
      · have mx : xe_max (wq_pr d) (Int32.ofNat e) = wq_pr (e + 1) := by
          have e3 : wq_pr (e + 1) = Int32.ofNat e := by
            unfold wq_pr
            rw [if_neg (by omega), show e + 1 - 1 = e by omega]
          rw [e3]
          unfold wq_pr
          by_cases d0 : d = 0
          · rw [if_pos d0]
            exact if_pos (of_eq_true (wq_mlt (a := e) (by omega)))
          · rw [if_neg d0]
            exact if_pos (of_eq_true (wq_ltT (a := d - 1) (b := e) (by omega) (by omega)))
        obtain ⟨d', i1, i2, i3, i4⟩ := ih (j + 1) M' (e + 1) (by omega) (by omega) (by omega) (fun q' hq' hqj hr => by
          by_cases eq : o q' = j
          · have := hi q' q hq' q1 (by omega)
            subst this
            exact ⟨e, by omega, by rw [eq]; exact e2⟩
          · obtain ⟨e', f1, f2⟩ := h1 q' hq' (by omega) hr
            exact ⟨e', by omega, f2⟩) (Or.inr ⟨q, q1, q3, by rw [show e + 1 - 1 = e by omega, ← q2]; exact e2⟩)
        refine ⟨d', i1, i2, i3, ?_⟩
        rw [← i4]
        simp (disch := omega) only [xf_gr_deepestOf_5_s, xf_gr_deepestOf_35_s, wq_ltT, wq_ltF, wq_inT, wq_clamp, wq_eqF, wq_eqm, wq_meq, wq_add, wq_mul, wq_subT, eq_self, Bool.false_eq_true, ↓reduceIte, Option.bind_some, Sum.elim_inl, Sum.elim_inr, ↓wq_f0b, ↓wq_f1b, ↓wq_f2b, ↓wq_r0b, ↓wq_r1b, ↓Option.bind_some, wq_cmp0, wq_tu, hb, et, e2, mx]
      · have mx : xe_max (wq_pr d) (Int32.ofNat e) = wq_pr d := by
          unfold wq_pr
          rw [if_neg (by omega)]
          exact if_neg (fun hh => (wq_ltF (by omega) (by omega)).mp hh)
        obtain ⟨d', i1, i2, i3, i4⟩ := ih (j + 1) M' d (by omega) (by omega) hdn (fun q' hq' hqj hr => by
          by_cases eq : o q' = j
          · have := hi q' q hq' q1 (by omega)
            subst this
            exact ⟨e, by omega, by rw [eq]; exact e2⟩
          · exact h1 q' hq' (by omega) hr) h2
        refine ⟨d', i1, i2, i3, ?_⟩
        rw [← i4]
        simp (disch := omega) only [xf_gr_deepestOf_5_s, xf_gr_deepestOf_35_s, wq_ltT, wq_ltF, wq_inT, wq_clamp, wq_eqF, wq_eqm, wq_meq, wq_add, wq_mul, wq_subT, eq_self, Bool.false_eq_true, ↓reduceIte, Option.bind_some, Sum.elim_inl, Sum.elim_inr, ↓wq_f0b, ↓wq_f1b, ↓wq_f2b, ↓wq_r0b, ↓wq_r1b, ↓Option.bind_some, wq_cmp0, wq_tu, hb, et, e2, mx]
theorem wm_pass (hn : n ≤ 40) (hd : ∀ p, p < n → ∀ j, j < 64 → (wq_bit (direct (o p)) j = true ↔ ∃ q, q < n ∧ j = o q ∧ r p q)) (ho : ∀ p, p < n → o p < 40 ∧ order p = Int32.ofNat (o p)) (hi : ∀ p q, p < n → q < n → o p = o q → p = q) {N : Nat} (hN : 41 ≤ N) (k7 : (Nat → Int32) → Int64 → Int32 → Int32 → Option (Unit × (Nat → Int32))) (v4 : Nat) :
    ∀ k p M (D : Nat → Int32) (v1 : Int64) (b : Nat), p + k = n → k < M → wq_PD n r (fun p => D (o p)) → (∀ q, q < n → (wq_bit v1 (o q) = true ↔ ¬ D (o q) = -1)) → (b = 0 ∨ b = 1) → (b = 0 → ∀ q, q < p → D (o q) = -1 → ∃ q', q' < n ∧ r q q' ∧ D (o q') = -1) →
    ∃ (D' : Nat → Int32) (v1' : Int64) (b' : Nat), wq_PD n r (fun p => D' (o p)) ∧ (∀ q, q < n → (wq_bit v1' (o q) = true ↔ ¬ D' (o q) = -1)) ∧ xf_gr_measureDepths_23 direct (Int32.ofNat n) order k7 N M D v1 (Int32.ofNat b) (Int32.ofNat v4) (Int32.ofNat p) = k7 D' v1' (Int32.ofNat b') (Int32.ofNat (v4 + 1)) ∧ (b' = 0 ∨ b' = 1) ∧ (b' = 0 → ∀ q, q < n → D' (o q) = -1 → ∃ q', q' < n ∧ r q q' ∧ D' (o q') = -1) ∧ wq_cnt (fun p => D' (o p)) n ≤ wq_cnt (fun p => D (o p)) n ∧ (b' = 1 → b = 1 ∨ wq_cnt (fun p => D' (o p)) n < wq_cnt (fun p => D (o p)) n) := by
  intro k
  induction k with
  | zero =>
    intro p M D v1 b hk hM hD hv hb h0
    obtain ⟨M', rfl⟩ : ∃ M', M = M' + 1 := ⟨M - 1, by omega⟩
    refine ⟨D, v1, b, hD, hv, ?_, hb, fun e q hq => h0 e q (by omega), Nat.le_refl _, fun e => Or.inl e⟩
    simp (disch := omega) only [xf_gr_measureDepths_23_s, wq_ltT, wq_ltF, wq_inT, wq_clamp, wq_eqF, wq_eqm, wq_meq, wq_add, wq_mul, wq_subT, eq_self, Bool.false_eq_true, ↓reduceIte, Option.bind_some, Sum.elim_inl, Sum.elim_inr, ↓wq_f0b, ↓wq_f1b, ↓wq_f2b, ↓wq_r0b, ↓wq_r1b, ↓Option.bind_some]
  | succ k ih =>
    intro p M D v1 b hk hM hD hv hb h0
    obtain ⟨M', rfl⟩ : ∃ M', M = M' + 1 := ⟨M - 1, by omega⟩
    have hp : p < n := by omega
    have r1 := (ho p hp).1
    have e1 := wq_rowAt hn (fun p hp => (ho p hp).2) hp
    by_cases hm : D (o p) = -1
    · by_cases hall : ∀ q, q < n → r p q → ¬ D (o q) = -1
      · have hsub : (direct (o p) &&& (v1 ^^^ (-1 : Int64))) = (0 : Int64) := by
          rw [wq_sub0]
          intro j hj hbj
          obtain ⟨q, q1, q2, q3⟩ := (hd p hp j hj).mp hbj
          rw [q2]
          exact (hv q q1).mpr (hall q q1 q3)
        obtain ⟨d, d1, d2, d3, d4⟩ := wm_deepest (o := o) (direct := direct) (r := r) hn (hd p hp) (fun p hp => (ho p hp).1) hi (depth := D) (fun q hq hr => by
          rcases wq_PD_val hn hD hq with h | h
          · exact absurd h (hall q hq hr)
          · exact h) hN
        have eqf : ∀ q, q < n → upd (fun q => D (o q)) p (Int32.ofNat d) q = upd D (o p) (Int32.ofNat d) (o q) := by
          intro q hq
          by_cases e : q = p
          · rw [e, wq_upd1, wq_upd1]
          · rw [wq_upd2 e, wq_upd2 (fun hh => e (hi q p hq hp hh))]
        have c1 := wq_cnt_upd (D := fun q => D (o q)) (p := p) (d := d) hm (by omega) n
        rw [if_pos hp, wq_cnt_congr n eqf] at c1
        obtain ⟨D', v1', b', i1, i2, i3, i4, i5, i6, i7⟩ := ih (p + 1) M' (upd D (o p) (Int32.ofNat d)) (v1 ||| xe_shl (1 : Int64) (Int32.ofNat (o p))) 1 (by omega) (by omega) (wq_PD_congr eqf (wq_PD_upd hn hD hp hm d1 d2 d3)) (fun q hq => by
          have rq := (ho q hq).1
          rw [wq_bit_or, wq_bit1 (by omega) (by omega), Bool.or_eq_true, decide_eq_true_eq]
          by_cases e : q = p
          · rw [e, wq_upd1]
            exact ⟨fun _ hh => (wq_eqm (by omega)).mp hh, fun _ => Or.inr rfl⟩
          · have ne : ¬ o q = o p := fun hh => e (hi q p hq hp hh)
            rw [wq_upd2 ne, ← hv q hq]
            exact ⟨fun h => h.elim id (fun h => absurd h ne), fun h => Or.inl h⟩) (Or.inr rfl) (fun e => absurd e (by omega))
        refine ⟨D', v1', b', i1, i2, ?_, i4, i5, by omega, fun _ => Or.inr (by omega)⟩
        rw [← i3]
        simp (disch := omega) only [xf_gr_measureDepths_23_s, xf_gr_measureDepths_104_s, wq_ltT, wq_ltF, wq_inT, wq_clamp, wq_eqF, wq_eqm, wq_meq, wq_add, wq_mul, wq_subT, eq_self, Bool.false_eq_true, ↓reduceIte, Option.bind_some, Sum.elim_inl, Sum.elim_inr, ↓wq_f0b, ↓wq_f1b, ↓wq_f2b, ↓wq_r0b, ↓wq_r1b, ↓Option.bind_some, e1, hm, wq_cmp0, hsub, d4, wq_pr1]
      · have hex : ∃ q, q < n ∧ r p q ∧ D (o q) = -1 := by
          apply Classical.byContradiction
          intro hc
          exact hall (fun q hq hr hh => hc ⟨q, hq, hr, hh⟩)
        have hsub : ¬ (direct (o p) &&& (v1 ^^^ (-1 : Int64))) = (0 : Int64) := by
          rw [wq_sub0]
          intro hh
          obtain ⟨q, q1, q2, q3⟩ := hex
          have rq := (ho q q1).1
          exact (hv q q1).mp (hh (o q) (by omega) ((hd p hp (o q) (by omega)).mpr ⟨q, q1, rfl, q2⟩)) q3
        obtain ⟨D', v1', b', i1, i2, i3, i4, i5, i6, i7⟩ := ih (p + 1) M' D v1 b (by omega) (by omega) hD hv hb (fun e q hq hqm => by
          by_cases eq : q = p
          · subst eq
            exact hex
          · exact h0 e q (by omega) hqm)
        refine ⟨D', v1', b', i1, i2, ?_, i4, i5, i6, i7⟩
        rw [← i3]
        simp (disch := omega) only [xf_gr_measureDepths_23_s, xf_gr_measureDepths_104_s, wq_ltT, wq_ltF, wq_inT, wq_clamp, wq_eqF, wq_eqm, wq_meq, wq_add, wq_mul, wq_subT, eq_self, Bool.false_eq_true, ↓reduceIte, Option.bind_some, Sum.elim_inl, Sum.elim_inr, ↓wq_f0b, ↓wq_f1b, ↓wq_f2b, ↓wq_r0b, ↓wq_r1b, ↓Option.bind_some, e1, hm, wq_cmp0, hsub]
    · obtain ⟨D', v1', b', i1, i2, i3, i4, i5, i6, i7⟩ := ih (p + 1) M' D v1 b (by omega) (by omega) hD hv hb (fun e q hq hqm => by
        by_cases eq : q = p
        · subst eq
          exact absurd hqm hm
        · exact h0 e q (by omega) hqm)
      refine ⟨D', v1', b', i1, i2, ?_, i4, i5, i6, i7⟩
      rw [← i3]
      simp (disch := omega) only [xf_gr_measureDepths_23_s, xf_gr_measureDepths_104_s, wq_ltT, wq_ltF, wq_inT, wq_clamp, wq_eqF, wq_eqm, wq_meq, wq_add, wq_mul, wq_subT, eq_self, Bool.false_eq_true, ↓reduceIte, Option.bind_some, Sum.elim_inl, Sum.elim_inr, ↓wq_f0b, ↓wq_f1b, ↓wq_f2b, ↓wq_r0b, ↓wq_r1b, ↓Option.bind_some, e1, hm]
theorem wm_depths (hn : n ≤ 40) (hd : ∀ p, p < n → ∀ j, j < 64 → (wq_bit (direct (o p)) j = true ↔ ∃ q, q < n ∧ j = o q ∧ r p q)) (ho : ∀ p, p < n → o p < 40 ∧ order p = Int32.ofNat (o p)) (hi : ∀ p q, p < n → q < n → o p = o q → p = q) {N : Nat} (hN : 60 ≤ N) (D : Nat → Int32) (hD : ∀ p, p < n → D (o p) = -1) :
    ∃ D', wi_D n r (fun p => D' (o p)) ∧ xf_gr_measureDepths direct (Int32.ofNat n) order N D = some ((), D') := by
  rw [xf_gr_measureDepths_s]
  suffices H : ∀ k i M (D : Nat → Int32) (v1 : Int64), i + k = 40 → k + 1 < M → wq_cnt (fun p => D (o p)) n ≤ k → wq_PD n r (fun p => D (o p)) → (∀ q, q < n → (wq_bit v1 (o q) = true ↔ ¬ D (o q) = -1)) → ∃ D', wi_D n r (fun p => D' (o p)) ∧ xf_gr_measureDepths_7 direct (Int32.ofNat n) order N M D v1 (Int32.ofNat 1) (Int32.ofNat i) = some ((), D') by
    refine H 40 0 N D 0 (by omega) (by omega) (Nat.le_trans (wq_cnt_le _ n) hn) (fun p hp => Or.inl (hD p hp)) (fun q hq => ?_)
    rw [wq_bit0]
    exact ⟨fun h => absurd h (by decide), fun h => absurd (hD q hq) h⟩
  intro k
  induction k with
  | zero =>
    intro i M D v1 hik hM hc hD hv
    obtain ⟨M', rfl⟩ : ∃ M', M = M' + 1 := ⟨M - 1, by omega⟩
    have c0 := wq_cnt0 n (show wq_cnt (fun p => D (o p)) n = 0 by omega)
    refine ⟨D, wq_PD_end hn hD (fun p hp hm => absurd hm (c0 p hp)), ?_⟩
    simp (disch := omega) only [xf_gr_measureDepths_7_s, xf_gr_measureDepths_116_s, wq_ltT, wq_ltF, wq_inT, wq_clamp, wq_eqF, wq_eqm, wq_meq, wq_add, wq_mul, wq_subT, eq_self, Bool.false_eq_true, ↓reduceIte, Option.bind_some, Sum.elim_inl, Sum.elim_inr, ↓wq_f0b, ↓wq_f1b, ↓wq_f2b, ↓wq_r0b, ↓wq_r1b, ↓Option.bind_some]
  | succ k ih =>
    intro i M D v1 hik hM hc hD hv
    obtain ⟨M', rfl⟩ : ∃ M', M = M' + 1 + 1 := ⟨M - 2, by omega⟩
    obtain ⟨D', v1', b', i1, i2, i3, i4, i5, i6, i7⟩ := wm_pass hn hd ho hi (N := N) (by omega) (xf_gr_measureDepths_7 direct (Int32.ofNat n) order N (M' + 1)) i n 0 N D v1 0 (by omega) (by omega) hD hv (Or.inl rfl) (fun _ q hq => absurd hq (by omega))
    have e : xf_gr_measureDepths_7 direct (Int32.ofNat n) order N (M' + 1 + 1) D v1 (Int32.ofNat 1) (Int32.ofNat i) = xf_gr_measureDepths_7 direct (Int32.ofNat n) order N (M' + 1) D' v1' (Int32.ofNat b') (Int32.ofNat (i + 1)) := by
      rw [← i3, xf_gr_measureDepths_7_s]
      simp (disch := omega) only [wq_ltT, wq_ltF, wq_inT, wq_clamp, wq_eqF, wq_eqm, wq_meq, wq_add, wq_mul, wq_subT, eq_self, Bool.false_eq_true, ↓reduceIte, Option.bind_some, Sum.elim_inl, Sum.elim_inr, ↓wq_f0b, ↓wq_f1b, ↓wq_f2b, ↓wq_r0b, ↓wq_r1b, ↓Option.bind_some]
    rw [e]
    rcases i4 with hb | hb
    · refine ⟨D', wq_PD_end hn i1 (i5 hb), ?_⟩
      subst hb
      by_cases h40 : i + 1 < 40
      · simp (disch := omega) only [xf_gr_measureDepths_7_s, xf_gr_measureDepths_116_s, wq_ltT, wq_ltF, wq_inT, wq_clamp, wq_eqF, wq_eqm, wq_meq, wq_add, wq_mul, wq_subT, eq_self, Bool.false_eq_true, ↓reduceIte, Option.bind_some, Sum.elim_inl, Sum.elim_inr, ↓wq_f0b, ↓wq_f1b, ↓wq_f2b, ↓wq_r0b, ↓wq_r1b, ↓Option.bind_some]
      · simp (disch := omega) only [xf_gr_measureDepths_7_s, xf_gr_measureDepths_116_s, wq_ltT, wq_ltF, wq_inT, wq_clamp, wq_eqF, wq_eqm, wq_meq, wq_add, wq_mul, wq_subT, eq_self, Bool.false_eq_true, ↓reduceIte, Option.bind_some, Sum.elim_inl, Sum.elim_inr, ↓wq_f0b, ↓wq_f1b, ↓wq_f2b, ↓wq_r0b, ↓wq_r1b, ↓Option.bind_some]
    · have hlt : wq_cnt (fun p => D' (o p)) n < wq_cnt (fun p => D (o p)) n := by
        rcases i7 hb with h | h
        · omega
        · exact h
      subst hb
      exact ih (i + 1) (M' + 1) D' v1' (by omega) (by omega) (by omega) i1 i2
end
theorem wm_learn {n R u : Nat} {o a z m : Nat → Nat} {t c s : Nat → Nat → Nat} {rows used rl : Int32} {number : Nat → Int32} {name : Nat → Int64} {size order sort value start items names values ritems numbers letters parts sorts : Nat → Int32}
    (hM : wi_M n R u o a z m t c s rows (Int32.ofNat n) used number name size order sort value start items names values ritems) (hV : wi_V n a z m t c rl numbers letters names parts sorts values ritems) {N : Nat} (hN : 60 ≤ N) (depth : Nat → Int32) (direct reach : Nat → Int64) (grouped : Int32) :
    ∃ depth' direct' reach', xf_gr_learn items (Int32.ofNat n) number order size sort start used value N depth direct grouped reach = some ((), depth', direct', Int32.ofNat 0, reach') ∧ wi_G n o (wi_ref a z t c values ritems) direct' reach' depth' := by
  have hn := hV.1.1
  have hr := wm_row hM
  have hi := hM.2.2.1
  have ho : ∀ p, p < n → o p < 40 ∧ order p = Int32.ofNat (o p) := fun p hp => ⟨(hr p hp).1, (hr p hp).2.1⟩
  rw [xf_gr_learn_s]
  suffices H : ∀ k p M (depth : Nat → Int32) (direct reach : Nat → Int64), p + k = n → k < M → (∀ q, q < p → depth (o q) = -1 ∧ (∀ j, j < 64 → (wq_bit (direct (o q)) j = true ↔ ∃ q', q' < n ∧ j = o q' ∧ wi_ref a z t c values ritems q q')) ∧ reach (o q) = direct (o q)) →
      ∃ depth' direct' reach', xf_gr_learn_7 items (Int32.ofNat n) number order size sort start used value N M depth direct (Int32.ofNat 0) reach (Int32.ofNat p) = some ((), depth', direct', Int32.ofNat 0, reach') ∧ wi_G n o (wi_ref a z t c values ritems) direct' reach' depth' from H n 0 N depth direct reach (by omega) (by omega) (fun q hq => absurd hq (by omega))
  intro k
  induction k with
  | zero =>
    intro p M depth direct reach hp hM' hq
    obtain ⟨M', rfl⟩ : ∃ M', M = M' + 1 := ⟨M - 1, by omega⟩
    obtain ⟨w', w1, w2⟩ := wm_reach (r := wi_ref a z t c values ritems) hn ho hi (N := N) (by omega) reach (fun q hq' j hj => by rw [(hq q (by omega)).2.2]; exact (hq q (by omega)).2.1 j hj)
    obtain ⟨D', d1, d2⟩ := wm_depths (r := wi_ref a z t c values ritems) (direct := direct) hn (fun q hq' => (hq q (by omega)).2.1) ho hi hN depth (fun q hq' => (hq q (by omega)).1)
    refine ⟨D', direct, w', ?_, fun q hq' => (hq q (by omega)).2.1, w1, d1⟩
    simp (disch := omega) only [xf_gr_learn_7_s, wq_ltT, wq_ltF, wq_inT, wq_clamp, wq_eqF, wq_eqm, wq_meq, wq_add, wq_mul, wq_subT, eq_self, Bool.false_eq_true, ↓reduceIte, Option.bind_some, Sum.elim_inl, Sum.elim_inr, ↓wq_f0b, ↓wq_f1b, ↓wq_f2b, ↓wq_r0b, ↓wq_r1b, ↓Option.bind_some, w2, d2]
  | succ k ih =>
    intro p M depth direct reach hp hM' hq
    obtain ⟨M', rfl⟩ : ∃ M', M = M' + 1 := ⟨M - 1, by omega⟩
    have hpn : p < n := by omega
    have r1 := (ho p hpn).1
    have e1 := wq_rowAt hn (fun p hp => (ho p hp).2) hpn
    obtain ⟨x, x1, x2⟩ := wm_bits hM hV (N := N) (by omega) hpn
    obtain ⟨depth', direct', reach', i1, i2⟩ := ih (p + 1) M' (upd depth (o p) (-1)) (vp_updL direct (o p) x) (vp_updL reach (o p) x) (by omega) (by omega) (fun q hqp => by
      by_cases e : q = p
      · subst e
        rw [wq_upd1, wq_lupd1, wq_lupd1]
        exact ⟨rfl, x2, rfl⟩
      · have ne : ¬ o q = o p := fun hh => e (hi q p (by omega) hpn hh)
        rw [wq_upd2 ne, wq_lupd2 ne, wq_lupd2 ne]
        exact hq q (by omega))
    refine ⟨depth', direct', reach', ?_, i2⟩
    rw [← i1]
    simp (disch := omega) only [xf_gr_learn_7_s, wq_ltT, wq_ltF, wq_inT, wq_clamp, wq_eqF, wq_eqm, wq_meq, wq_add, wq_mul, wq_subT, eq_self, Bool.false_eq_true, ↓reduceIte, Option.bind_some, Sum.elim_inl, Sum.elim_inr, ↓wq_f0b, ↓wq_f1b, ↓wq_f2b, ↓wq_r0b, ↓wq_r1b, ↓Option.bind_some, e1, x1, wq_lupd1]
