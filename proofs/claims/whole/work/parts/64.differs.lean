/-! DIFFERS. -/
section
variable {n : Nat} {a z m : Nat → Nat} {t c : Nat → Nat → Nat} {rl rl' : Int32} {n' : Nat} {a' z' m' : Nat → Nat} {t' c' : Nat → Nat → Nat} {numbers letters names parts sorts values items : Nat → Int32}
/-- the reference's comparison of an argument of the model with one that was kept -/
theorem wq_rsame1 (hV : wi_V n a z m t c rl numbers letters names parts sorts values items) (hV' : wi_V n' a' z' m' t' c' rl' (fun p => numbers (80 + p)) (fun p => letters (80 + p)) (fun i => names (640 + i)) (fun p => parts (80 + p)) (fun k => sorts (640 + k)) (fun k => values (640 + k)) (fun i => items (12800 + i)))
    {N : Nat} (hN : 60 ≤ N) {p q k : Nat} (hp : p < n) (hq : q < n') (hk : k < z p) (hk' : k < z' q) (M : Nat) :
    (wq_sa (t p k) (t' q k) (c p k) (values (8 * p + k)) (values (640 + (8 * q + k))) (fun i => items (20 * (8 * p + k) + i)) (fun i => items (12800 + (20 * (8 * q + k) + i))) (fun x => x) ∧ xf_rf_isLineSame_67 items letters names parts sorts values N (M + 1) (Int32.ofNat p) (Int32.ofNat (80 + q)) (Int32.ofNat 1) (Int32.ofNat k) = xf_rf_isLineSame_67 items letters names parts sorts values N M (Int32.ofNat p) (Int32.ofNat (80 + q)) (Int32.ofNat 1) (Int32.ofNat (k + 1))) ∨
    (¬ wq_sa (t p k) (t' q k) (c p k) (values (8 * p + k)) (values (640 + (8 * q + k))) (fun i => items (20 * (8 * p + k) + i)) (fun i => items (12800 + (20 * (8 * q + k) + i))) (fun x => x) ∧ xf_rf_isLineSame_67 items letters names parts sorts values N (M + 1) (Int32.ofNat p) (Int32.ofNat (80 + q)) (Int32.ofNat 1) (Int32.ofNat k) = xf_rf_isLineSame_67 items letters names parts sorts values N M (Int32.ofNat p) (Int32.ofNat (80 + q)) (Int32.ofNat 0) (Int32.ofNat (k + 1))) := by
  have hn := hV.1.1
  have hn' := hV'.1.1
  obtain ⟨r5, r6, r7⟩ := hV.2.2.2.2.1 p hp
  obtain ⟨_, _, r7'⟩ := hV'.2.2.2.2.1 q hq
  obtain ⟨f1, w, w', _⟩ := hV.2.2.2.2.2 p k hp hk
  obtain ⟨f1', x, x', _⟩ := hV'.2.2.2.2.2 q k hq hk'
  have i1 := wq_isItems hV hp hk
  have i2 := wq_isItems hV' hq hk'
  have e8 : 8 * (80 + q) + k = 640 + (8 * q + k) := by omega
  have g1 : sorts (640 + (8 * q + k)) = Int32.ofNat (t' q k) := f1'
  unfold wq_sa
  by_cases ht : t p k = t' q k
  · by_cases hv : values (8 * p + k) = values (640 + (8 * q + k))
    · by_cases hmany : t p k = 1 ∨ t p k = 3 ∨ t p k = 4 ∨ t p k = 5
      · have hc : values (8 * p + k) = Int32.ofNat (c p k) := by
          rcases i1 with ⟨y1, y2⟩ | ⟨y1, y2, y3, y4, y5, y6⟩
          · omega
          · exact y5
        by_cases hall : ∀ j, j < c p k → items (20 * (8 * p + k) + j) = items (12800 + (20 * (8 * q + k) + j))
        · have sm := wq_same1 (p1 := items) (p3 := items) (n1 := 19200) (n3 := 19200) (N := N) (d := 20 * (8 * p + k)) (e := 20 * (8 * (80 + q) + k)) (l := c p k) (by omega) (by omega) (by omega) (by omega) (by omega) (fun j hj => by
            rw [hall j hj, show 20 * (8 * (80 + q) + k) + j = 12800 + (20 * (8 * q + k) + j) by omega])
          refine Or.inl ⟨⟨ht, fun _ => hv, fun _ => ⟨hv, fun _ i hi => hall i hi, fun _ i hi => hall i hi⟩⟩, ?_⟩
          rw [xf_rf_isLineSame_67_s]
          rcases hmany with h | h | h | h
          · simp (disch := omega) only [xf_rf_isLineSame_139_s, xf_rf_isLineSame_184_s, xf_rf_isLineSame_189_s, xf_rf_isLineSame_231_s, xf_rf_isLineSame_235_s, xf_rf_isLineSame_236_s, wq_ltT, wq_ltF, wq_inT, wq_clamp, wq_eqF, wq_eqm, wq_meq, wq_add, wq_mul, wq_subT, eq_self, Bool.false_eq_true, ↓reduceIte, Option.bind_some, Sum.elim_inl, Sum.elim_inr, ↓wq_f0b, ↓wq_f1b, ↓wq_f2b, ↓wq_r0b, ↓wq_r1b, ↓Option.bind_some, r5, f1, e8, g1, ← ht, h, ← hv, hc]
            rw [e8] at sm
            simp (disch := omega) only [wq_ltT, wq_ltF, wq_inT, wq_clamp, wq_eqF, wq_eqm, wq_meq, wq_add, wq_mul, wq_subT, eq_self, Bool.false_eq_true, ↓reduceIte, Option.bind_some, Sum.elim_inl, Sum.elim_inr, ↓wq_f0b, ↓wq_f1b, ↓wq_f2b, ↓wq_r0b, ↓wq_r1b, ↓Option.bind_some, sm]
          · simp (disch := omega) only [xf_rf_isLineSame_139_s, xf_rf_isLineSame_184_s, xf_rf_isLineSame_189_s, xf_rf_isLineSame_231_s, xf_rf_isLineSame_235_s, xf_rf_isLineSame_236_s, wq_ltT, wq_ltF, wq_inT, wq_clamp, wq_eqF, wq_eqm, wq_meq, wq_add, wq_mul, wq_subT, eq_self, Bool.false_eq_true, ↓reduceIte, Option.bind_some, Sum.elim_inl, Sum.elim_inr, ↓wq_f0b, ↓wq_f1b, ↓wq_f2b, ↓wq_r0b, ↓wq_r1b, ↓Option.bind_some, r5, f1, e8, g1, ← ht, h, ← hv, hc]
            rw [e8] at sm
            simp (disch := omega) only [wq_ltT, wq_ltF, wq_inT, wq_clamp, wq_eqF, wq_eqm, wq_meq, wq_add, wq_mul, wq_subT, eq_self, Bool.false_eq_true, ↓reduceIte, Option.bind_some, Sum.elim_inl, Sum.elim_inr, ↓wq_f0b, ↓wq_f1b, ↓wq_f2b, ↓wq_r0b, ↓wq_r1b, ↓Option.bind_some, sm]
          · simp (disch := omega) only [xf_rf_isLineSame_139_s, xf_rf_isLineSame_184_s, xf_rf_isLineSame_189_s, xf_rf_isLineSame_231_s, xf_rf_isLineSame_235_s, xf_rf_isLineSame_236_s, wq_ltT, wq_ltF, wq_inT, wq_clamp, wq_eqF, wq_eqm, wq_meq, wq_add, wq_mul, wq_subT, eq_self, Bool.false_eq_true, ↓reduceIte, Option.bind_some, Sum.elim_inl, Sum.elim_inr, ↓wq_f0b, ↓wq_f1b, ↓wq_f2b, ↓wq_r0b, ↓wq_r1b, ↓Option.bind_some, r5, f1, e8, g1, ← ht, h, ← hv, hc]
            rw [e8] at sm
            simp (disch := omega) only [wq_ltT, wq_ltF, wq_inT, wq_clamp, wq_eqF, wq_eqm, wq_meq, wq_add, wq_mul, wq_subT, eq_self, Bool.false_eq_true, ↓reduceIte, Option.bind_some, Sum.elim_inl, Sum.elim_inr, ↓wq_f0b, ↓wq_f1b, ↓wq_f2b, ↓wq_r0b, ↓wq_r1b, ↓Option.bind_some, sm]
          · simp (disch := omega) only [xf_rf_isLineSame_139_s, xf_rf_isLineSame_184_s, xf_rf_isLineSame_189_s, xf_rf_isLineSame_231_s, xf_rf_isLineSame_235_s, xf_rf_isLineSame_236_s, wq_ltT, wq_ltF, wq_inT, wq_clamp, wq_eqF, wq_eqm, wq_meq, wq_add, wq_mul, wq_subT, eq_self, Bool.false_eq_true, ↓reduceIte, Option.bind_some, Sum.elim_inl, Sum.elim_inr, ↓wq_f0b, ↓wq_f1b, ↓wq_f2b, ↓wq_r0b, ↓wq_r1b, ↓Option.bind_some, r5, f1, e8, g1, ← ht, h, ← hv, hc]
            rw [e8] at sm
            simp (disch := omega) only [wq_ltT, wq_ltF, wq_inT, wq_clamp, wq_eqF, wq_eqm, wq_meq, wq_add, wq_mul, wq_subT, eq_self, Bool.false_eq_true, ↓reduceIte, Option.bind_some, Sum.elim_inl, Sum.elim_inr, ↓wq_f0b, ↓wq_f1b, ↓wq_f2b, ↓wq_r0b, ↓wq_r1b, ↓Option.bind_some, sm]
        · have sm := wq_same2 (p1 := items) (p3 := items) (n1 := 19200) (n3 := 19200) (N := N) (d := 20 * (8 * p + k)) (e := 20 * (8 * (80 + q) + k)) (l := c p k) (by omega) (by omega) (by omega) (by omega) (by omega) (fun hh => hall (fun j hj => by
            have := hh j hj
            rw [show 20 * (8 * (80 + q) + k) + j = 12800 + (20 * (8 * q + k) + j) by omega] at this
            exact this))
          refine Or.inr ⟨fun h => hall (fun j hj => ?_), ?_⟩
          · have := h.2.2 (by omega)
            by_cases h4 : t p k = 4
            · exact this.2.1 h4 j hj
            · exact this.2.2 (by omega) j hj
          · rw [xf_rf_isLineSame_67_s]
            rw [e8] at sm
            rcases hmany with h | h | h | h
            · simp (disch := omega) only [xf_rf_isLineSame_139_s, xf_rf_isLineSame_184_s, xf_rf_isLineSame_189_s, xf_rf_isLineSame_231_s, xf_rf_isLineSame_235_s, xf_rf_isLineSame_236_s, wq_ltT, wq_ltF, wq_inT, wq_clamp, wq_eqF, wq_eqm, wq_meq, wq_add, wq_mul, wq_subT, eq_self, Bool.false_eq_true, ↓reduceIte, Option.bind_some, Sum.elim_inl, Sum.elim_inr, ↓wq_f0b, ↓wq_f1b, ↓wq_f2b, ↓wq_r0b, ↓wq_r1b, ↓Option.bind_some, r5, f1, e8, g1, ← ht, h, ← hv, hc, sm]
            · simp (disch := omega) only [xf_rf_isLineSame_139_s, xf_rf_isLineSame_184_s, xf_rf_isLineSame_189_s, xf_rf_isLineSame_231_s, xf_rf_isLineSame_235_s, xf_rf_isLineSame_236_s, wq_ltT, wq_ltF, wq_inT, wq_clamp, wq_eqF, wq_eqm, wq_meq, wq_add, wq_mul, wq_subT, eq_self, Bool.false_eq_true, ↓reduceIte, Option.bind_some, Sum.elim_inl, Sum.elim_inr, ↓wq_f0b, ↓wq_f1b, ↓wq_f2b, ↓wq_r0b, ↓wq_r1b, ↓Option.bind_some, r5, f1, e8, g1, ← ht, h, ← hv, hc, sm]
            · simp (disch := omega) only [xf_rf_isLineSame_139_s, xf_rf_isLineSame_184_s, xf_rf_isLineSame_189_s, xf_rf_isLineSame_231_s, xf_rf_isLineSame_235_s, xf_rf_isLineSame_236_s, wq_ltT, wq_ltF, wq_inT, wq_clamp, wq_eqF, wq_eqm, wq_meq, wq_add, wq_mul, wq_subT, eq_self, Bool.false_eq_true, ↓reduceIte, Option.bind_some, Sum.elim_inl, Sum.elim_inr, ↓wq_f0b, ↓wq_f1b, ↓wq_f2b, ↓wq_r0b, ↓wq_r1b, ↓Option.bind_some, r5, f1, e8, g1, ← ht, h, ← hv, hc, sm]
            · simp (disch := omega) only [xf_rf_isLineSame_139_s, xf_rf_isLineSame_184_s, xf_rf_isLineSame_189_s, xf_rf_isLineSame_231_s, xf_rf_isLineSame_235_s, xf_rf_isLineSame_236_s, wq_ltT, wq_ltF, wq_inT, wq_clamp, wq_eqF, wq_eqm, wq_meq, wq_add, wq_mul, wq_subT, eq_self, Bool.false_eq_true, ↓reduceIte, Option.bind_some, Sum.elim_inl, Sum.elim_inr, ↓wq_f0b, ↓wq_f1b, ↓wq_f2b, ↓wq_r0b, ↓wq_r1b, ↓Option.bind_some, r5, f1, e8, g1, ← ht, h, ← hv, hc, sm]
      · refine Or.inl ⟨⟨ht, fun _ => hv, fun _ => ⟨hv, fun h => absurd h (by omega), fun h => absurd h (by omega)⟩⟩, ?_⟩
        rw [xf_rf_isLineSame_67_s]
        simp (disch := omega) only [xf_rf_isLineSame_139_s, xf_rf_isLineSame_184_s, xf_rf_isLineSame_189_s, xf_rf_isLineSame_231_s, xf_rf_isLineSame_235_s, xf_rf_isLineSame_236_s, wq_ltT, wq_ltF, wq_inT, wq_clamp, wq_eqF, wq_eqm, wq_meq, wq_add, wq_mul, wq_subT, eq_self, Bool.false_eq_true, ↓reduceIte, Option.bind_some, Sum.elim_inl, Sum.elim_inr, ↓wq_f0b, ↓wq_f1b, ↓wq_f2b, ↓wq_r0b, ↓wq_r1b, ↓Option.bind_some, r5, f1, e8, g1, ← ht, ← hv]
    · refine Or.inr ⟨fun h => hv ?_, ?_⟩
      · by_cases h2 : t p k = 2
        · exact h.2.1 h2
        · exact (h.2.2 h2).1
      · rw [xf_rf_isLineSame_67_s]
        simp (disch := omega) only [xf_rf_isLineSame_138_s, xf_rf_isLineSame_139_s, xf_rf_isLineSame_184_s, xf_rf_isLineSame_189_s, xf_rf_isLineSame_235_s, xf_rf_isLineSame_236_s, wq_ltT, wq_ltF, wq_inT, wq_clamp, wq_eqF, wq_eqm, wq_meq, wq_add, wq_mul, wq_subT, eq_self, Bool.false_eq_true, ↓reduceIte, Option.bind_some, Sum.elim_inl, Sum.elim_inr, ↓wq_f0b, ↓wq_f1b, ↓wq_f2b, ↓wq_r0b, ↓wq_r1b, ↓Option.bind_some, r5, f1, e8, g1, ← ht, hv, ite_self]
  · refine Or.inr ⟨fun h => ht h.1, ?_⟩
    rw [xf_rf_isLineSame_67_s]
    simp (disch := omega) only [xf_rf_isLineSame_138_s, xf_rf_isLineSame_139_s, xf_rf_isLineSame_184_s, xf_rf_isLineSame_189_s, xf_rf_isLineSame_235_s, xf_rf_isLineSame_236_s, wq_ltT, wq_ltF, wq_inT, wq_clamp, wq_eqF, wq_eqm, wq_meq, wq_add, wq_mul, wq_subT, eq_self, Bool.false_eq_true, ↓reduceIte, Option.bind_some, Sum.elim_inl, Sum.elim_inr, ↓wq_f0b, ↓wq_f1b, ↓wq_f2b, ↓wq_r0b, ↓wq_r1b, ↓Option.bind_some, r5, f1, e8, g1, ite_self]
theorem wq_rsame (hV : wi_V n a z m t c rl numbers letters names parts sorts values items) (hV' : wi_V n' a' z' m' t' c' rl' (fun p => numbers (80 + p)) (fun p => letters (80 + p)) (fun i => names (640 + i)) (fun p => parts (80 + p)) (fun k => sorts (640 + k)) (fun k => values (640 + k)) (fun i => items (12800 + i)))
    {N : Nat} (hN : 60 ≤ N) {p q : Nat} (hp : p < n) (hq : q < n') :
    (wq_sl n n' z m z' m' t c t' names values items (fun i => names (640 + i)) (fun k => values (640 + k)) (fun i => items (12800 + i)) (fun x => x) p q ∧ xf_rf_isLineSame items letters names parts sorts values N (Int32.ofNat p) (Int32.ofNat (80 + q)) = some (Int32.ofNat 1)) ∨
    (¬ wq_sl n n' z m z' m' t c t' names values items (fun i => names (640 + i)) (fun k => values (640 + k)) (fun i => items (12800 + i)) (fun x => x) p q ∧ xf_rf_isLineSame items letters names parts sorts values N (Int32.ofNat p) (Int32.ofNat (80 + q)) = some (Int32.ofNat 0)) := by
  have ef0 : (fits .boolean (.int (Int32.ofNat 0)) = true) = True := by decide
  have ef1 : (fits .boolean (.int (Int32.ofNat 1)) = true) = True := by decide
  have hn := hV.1.1
  have hn' := hV'.1.1
  obtain ⟨r5, r6, r7⟩ := hV.2.2.2.2.1 p hp
  obtain ⟨r5', r6', r7'⟩ := hV'.2.2.2.2.1 q hq
  obtain ⟨l1, m1, m2, m3⟩ := hV.2.2.2.1 p hp
  obtain ⟨l1', m1', m2', m3'⟩ := hV'.2.2.2.1 q hq
  have p2 : parts (80 + q) = Int32.ofNat (z' q) := r5'
  have l2 : letters (80 + q) = Int32.ofNat (m' q) := l1'
  -- with a flag that is 0 it ends with 0
  have stop : ∀ M, 0 < M → ∀ k, k ≤ z p → xf_rf_isLineSame_67 items letters names parts sorts values N M (Int32.ofNat p) (Int32.ofNat (80 + q)) (Int32.ofNat 0) (Int32.ofNat k) = some (Int32.ofNat 0) := by
    intro M hM k hk
    obtain ⟨M', rfl⟩ : ∃ M', M = M' + 1 := ⟨M - 1, by omega⟩
    by_cases hkz : k < z p
    · simp (disch := omega) only [xf_rf_isLineSame_67_s, xf_rf_isLineSame_243_s, wq_ltT, wq_ltF, wq_inT, wq_clamp, wq_eqF, wq_eqm, wq_meq, wq_add, wq_mul, wq_subT, eq_self, Bool.false_eq_true, ↓reduceIte, Option.bind_some, Sum.elim_inl, Sum.elim_inr, ↓wq_f0b, ↓wq_f1b, ↓wq_f2b, ↓wq_r0b, ↓wq_r1b, ↓Option.bind_some, r5, ef0]
    · simp (disch := omega) only [xf_rf_isLineSame_67_s, xf_rf_isLineSame_243_s, wq_ltT, wq_ltF, wq_inT, wq_clamp, wq_eqF, wq_eqm, wq_meq, wq_add, wq_mul, wq_subT, eq_self, Bool.false_eq_true, ↓reduceIte, Option.bind_some, Sum.elim_inl, Sum.elim_inr, ↓wq_f0b, ↓wq_f1b, ↓wq_f2b, ↓wq_r0b, ↓wq_r1b, ↓Option.bind_some, r5, ef0]
  unfold wq_sl
  by_cases hm : m p = m' q
  · by_cases hz : z p = z' q
    · by_cases hnm : ∀ i, i < m p → names (8 * p + i) = names (640 + (8 * q + i))
      · have sm := wq_same1 (p1 := names) (p3 := names) (n1 := 960) (n3 := 960) (N := N) (d := 8 * p) (e := 8 * (80 + q)) (l := m p) (by omega) (by omega) (by omega) (by omega) (by omega) (fun j hj => by
          rw [hnm j hj, show 8 * (80 + q) + j = 640 + (8 * q + j) by omega])
        have step : xf_rf_isLineSame items letters names parts sorts values N (Int32.ofNat p) (Int32.ofNat (80 + q)) = xf_rf_isLineSame_67 items letters names parts sorts values N N (Int32.ofNat p) (Int32.ofNat (80 + q)) (Int32.ofNat 1) (Int32.ofNat 0) := by
          simp (disch := omega) only [xf_rf_isLineSame_s, xf_rf_isLineSame_63_s, wq_ltT, wq_ltF, wq_inT, wq_clamp, wq_eqF, wq_eqm, wq_meq, wq_add, wq_mul, wq_subT, eq_self, Bool.false_eq_true, ↓reduceIte, Option.bind_some, Sum.elim_inl, Sum.elim_inr, ↓wq_f0b, ↓wq_f1b, ↓wq_f2b, ↓wq_r0b, ↓wq_r1b, ↓Option.bind_some, l1, l2, hm, r5, p2, hz]
          rw [hm] at sm
          simp (disch := omega) only [wq_ltT, wq_ltF, wq_inT, wq_clamp, wq_eqF, wq_eqm, wq_meq, wq_add, wq_mul, wq_subT, eq_self, Bool.false_eq_true, ↓reduceIte, Option.bind_some, Sum.elim_inl, Sum.elim_inr, ↓wq_f0b, ↓wq_f1b, ↓wq_f2b, ↓wq_r0b, ↓wq_r1b, ↓Option.bind_some, sm]
        rw [step]
        have loop : ∀ l k M, k + l = z p → l < M → ((∀ j, k ≤ j → j < z p → wq_sa (t p j) (t' q j) (c p j) (values (8 * p + j)) (values (640 + (8 * q + j))) (fun i => items (20 * (8 * p + j) + i)) (fun i => items (12800 + (20 * (8 * q + j) + i))) (fun x => x)) ∧ xf_rf_isLineSame_67 items letters names parts sorts values N M (Int32.ofNat p) (Int32.ofNat (80 + q)) (Int32.ofNat 1) (Int32.ofNat k) = some (Int32.ofNat 1)) ∨ (¬ (∀ j, k ≤ j → j < z p → wq_sa (t p j) (t' q j) (c p j) (values (8 * p + j)) (values (640 + (8 * q + j))) (fun i => items (20 * (8 * p + j) + i)) (fun i => items (12800 + (20 * (8 * q + j) + i))) (fun x => x)) ∧ xf_rf_isLineSame_67 items letters names parts sorts values N M (Int32.ofNat p) (Int32.ofNat (80 + q)) (Int32.ofNat 1) (Int32.ofNat k) = some (Int32.ofNat 0)) := by
          intro l
          induction l with
          | zero =>
            intro k M hk hM
            obtain ⟨M', rfl⟩ : ∃ M', M = M' + 1 := ⟨M - 1, by omega⟩
            refine Or.inl ⟨fun j h1 h2 => absurd h2 (by omega), ?_⟩
            simp (disch := omega) only [xf_rf_isLineSame_67_s, xf_rf_isLineSame_243_s, wq_ltT, wq_ltF, wq_inT, wq_clamp, wq_eqF, wq_eqm, wq_meq, wq_add, wq_mul, wq_subT, eq_self, Bool.false_eq_true, ↓reduceIte, Option.bind_some, Sum.elim_inl, Sum.elim_inr, ↓wq_f0b, ↓wq_f1b, ↓wq_f2b, ↓wq_r0b, ↓wq_r1b, ↓Option.bind_some, r5, ef1]
          | succ l ih =>
            intro k M hk hM
            obtain ⟨M', rfl⟩ : ∃ M', M = M' + 1 := ⟨M - 1, by omega⟩
            have key := ih (k + 1) M' (by omega) (by omega)
            rcases wq_rsame1 hV hV' hN hp hq (k := k) (by omega) (by omega) M' with ⟨a1, a2⟩ | ⟨a1, a2⟩
            · rw [a2]
              rcases key with ⟨k1, k2⟩ | ⟨k1, k2⟩
              · refine Or.inl ⟨fun j h1 h2 => ?_, k2⟩
                by_cases e : j = k
                · rw [e]
                  exact a1
                · exact k1 j (by omega) h2
              · exact Or.inr ⟨fun h => k1 (fun j h1 h2 => h j (by omega) h2), k2⟩
            · refine Or.inr ⟨fun h => a1 (h k (Nat.le_refl k) (by omega)), ?_⟩
              rw [a2]
              exact stop M' (by omega) (k + 1) (by omega)
        rcases loop (z p) 0 N (by omega) (by omega) with ⟨k1, k2⟩ | ⟨k1, k2⟩
        · exact Or.inl ⟨⟨⟨hm, hnm⟩, hz, fun k hk => k1 k (by omega) hk⟩, k2⟩
        · exact Or.inr ⟨fun h => k1 (fun j _ hj => h.2.2 j hj), k2⟩
      · have sm := wq_same2 (p1 := names) (p3 := names) (n1 := 960) (n3 := 960) (N := N) (d := 8 * p) (e := 8 * (80 + q)) (l := m p) (by omega) (by omega) (by omega) (by omega) (by omega) (fun hh => hnm (fun j hj => by
          have := hh j hj
          rw [show 8 * (80 + q) + j = 640 + (8 * q + j) by omega] at this
          exact this))
        refine Or.inr ⟨fun h => hnm h.1.2, ?_⟩
        rw [hm] at sm
        simp (disch := omega) only [xf_rf_isLineSame_s, xf_rf_isLineSame_62_s, xf_rf_isLineSame_63_s, wq_ltT, wq_ltF, wq_inT, wq_clamp, wq_eqF, wq_eqm, wq_meq, wq_add, wq_mul, wq_subT, eq_self, Bool.false_eq_true, ↓reduceIte, Option.bind_some, Sum.elim_inl, Sum.elim_inr, ↓wq_f0b, ↓wq_f1b, ↓wq_f2b, ↓wq_r0b, ↓wq_r1b, ↓Option.bind_some, l1, l2, hm, r5, p2, hz]
        rw [hz] at stop
        simp (disch := omega) only [wq_ltT, wq_ltF, wq_inT, wq_clamp, wq_eqF, wq_eqm, wq_meq, wq_add, wq_mul, wq_subT, eq_self, Bool.false_eq_true, ↓reduceIte, Option.bind_some, Sum.elim_inl, Sum.elim_inr, ↓wq_f0b, ↓wq_f1b, ↓wq_f2b, ↓wq_r0b, ↓wq_r1b, ↓Option.bind_some, sm, stop]
    · refine Or.inr ⟨fun h => hz h.2.1, ?_⟩
      simp (disch := omega) only [xf_rf_isLineSame_s, xf_rf_isLineSame_62_s, xf_rf_isLineSame_63_s, wq_ltT, wq_ltF, wq_inT, wq_clamp, wq_eqF, wq_eqm, wq_meq, wq_add, wq_mul, wq_subT, eq_self, Bool.false_eq_true, ↓reduceIte, Option.bind_some, Sum.elim_inl, Sum.elim_inr, ↓wq_f0b, ↓wq_f1b, ↓wq_f2b, ↓wq_r0b, ↓wq_r1b, ↓Option.bind_some, l1, l2, hm, r5, p2, stop]
  · refine Or.inr ⟨fun h => hm h.1.1, ?_⟩
    simp (disch := omega) only [xf_rf_isLineSame_s, xf_rf_isLineSame_62_s, xf_rf_isLineSame_63_s, wq_ltT, wq_ltF, wq_inT, wq_clamp, wq_eqF, wq_eqm, wq_meq, wq_add, wq_mul, wq_subT, eq_self, Bool.false_eq_true, ↓reduceIte, Option.bind_some, Sum.elim_inl, Sum.elim_inr, ↓wq_f0b, ↓wq_f1b, ↓wq_f2b, ↓wq_r0b, ↓wq_r1b, ↓Option.bind_some, l1, l2, stop]
end
