/-! WRITE. -/
theorem wr_copy {items letters lines names numbers parts sorts values out : Nat → Int32} {N W : Nat} (hW : W ≤ 1200) (size th : Int32) : ∀ l j M (text : Nat → Int32), j + l = W → l < M → (∀ i, i < j → text i = out i) →
    ∃ text', (∀ i, i < W → text' i = out i) ∧ xf_rf_write_154 items letters lines names numbers parts sorts values N M out size text th (Int32.ofNat W) (Int32.ofNat j) = some (Int32.ofNat W, out, Int32.ofNat W, text', th, Int32.ofNat W) := by
  intro l
  induction l with
  | zero =>
    intro j M text hj hM ht
    obtain ⟨M', rfl⟩ : ∃ M', M = M' + 1 := ⟨M - 1, by omega⟩
    refine ⟨text, fun i hi => ht i (by omega), ?_⟩
    simp (disch := omega) only [↓xf_rf_write_154_s, wq_ltT, wq_ltF, wq_inT, wq_clamp, wq_eqF, wq_eqm, wq_meq, wq_add, wq_mul, wq_subT, eq_self, Bool.false_eq_true, ↓reduceIte, Option.bind_some, Sum.elim_inl, Sum.elim_inr, ↓wq_f0b, ↓wq_f1b, ↓wq_f2b, ↓wq_r0b, ↓wq_r1b, ↓Option.bind_some]
  | succ l ih =>
    intro j M text hj hM ht
    obtain ⟨M', rfl⟩ : ∃ M', M = M' + 1 := ⟨M - 1, by omega⟩
    obtain ⟨text', i1, i2⟩ := ih (j + 1) M' (upd text j (out j)) (by omega) (by omega) (fun i hi => by
      by_cases e : i = j
      · rw [e, wq_upd1]
      · rw [wq_upd2 e]
        exact ht i (by omega))
    refine ⟨text', i1, ?_⟩
    rw [← i2, xf_rf_write_154_s]
    simp (disch := omega) only [wq_ltT, wq_ltF, wq_inT, wq_clamp, wq_eqF, wq_eqm, wq_meq, wq_add, wq_mul, wq_subT, eq_self, Bool.false_eq_true, ↓reduceIte, Option.bind_some, Sum.elim_inl, Sum.elim_inr, ↓wq_f0b, ↓wq_f1b, ↓wq_f2b, ↓wq_r0b, ↓wq_r1b, ↓Option.bind_some]
set_option maxRecDepth 100000 in
theorem wc_5 {sc : Nat × (Nat → Int32)} {N : Nat} (hN : 1300 ≤ N) : wp_Ok sc wi_I (xf_law_5 sc N) := by
  apply wp_red_5
  intro A L S hI
  obtain ⟨hT, hK, ⟨n, R, u, o, a, z, m, t, c, s, hm⟩, hkept⟩ := id hI
  obtain ⟨hn, hn2, hn3⟩ := wi_n hm
  obtain ⟨hV, hM, hG, hL⟩ := id hm
  have hr := wi_row hm
  -- all lines
  have loop : ∀ l p M1 M2 (W : Nat) (full len : Int32) (signs out : Nat → Int32) (wr : Int32), p + l = n → l < M1 → l < M2 → wr_R W full len signs out wr → W + 800 * l ≤ 100000 →
      ∃ (W' : Nat) (full' len' : Int32) (signs' out' : Nat → Int32) (wr' : Int32) (K1 K2 : Nat), wr_R W' full' len' signs' out' wr' ∧ W' ≤ 100000 ∧
        xf_xt_write_9 (A 23) (S 15 1) (L 17) (A 16) (A 19) (A 18) (A 20) (A 22) (S 15 2) (A 21) N M1 full len signs (S 1 2) (S 1 1) (A 2) (Int32.ofNat p) = xf_xt_write_9 (A 23) (S 15 1) (L 17) (A 16) (A 19) (A 18) (A 20) (A 22) (S 15 2) (A 21) N (K1 + 1) full' len' signs' (S 1 2) (S 1 1) (A 2) (Int32.ofNat n) ∧
        xf_rf_write_12 (A 73) (A 68) (A 66) (A 69) (A 67) (A 70) (A 71) (A 72) N M2 out (S 57 1) (A 58) (Int32.ofNat 0) wr (Int32.ofNat p) = xf_rf_write_12 (A 73) (A 68) (A 66) (A 69) (A 67) (A 70) (A 71) (A 72) N (K2 + 1) out' (S 57 1) (A 58) (Int32.ofNat 0) wr' (Int32.ofNat n) := by
    intro l
    induction l with
    | zero =>
      intro p M1 M2 W full len signs out wr hp hM1 hM2 hR hW
      obtain ⟨M1, rfl⟩ : ∃ M', M1 = M' + 1 := ⟨M1 - 1, by omega⟩
      obtain ⟨M2, rfl⟩ : ∃ M', M2 = M' + 1 := ⟨M2 - 1, by omega⟩
      have e : p = n := by omega
      subst e
      exact ⟨W, full, len, signs, out, wr, M1, M2, hR, by omega, rfl, rfl⟩
    | succ l ih =>
      intro p M1 M2 W full len signs out wr hp hM1 hM2 hR hW
      obtain ⟨M1, rfl⟩ : ∃ M', M1 = M' + 1 := ⟨M1 - 1, by omega⟩
      obtain ⟨M2, rfl⟩ : ∃ M', M2 = M' + 1 := ⟨M2 - 1, by omega⟩
      have hpn : p < n := by omega
      have e1 := wq_rowAt hn (fun p hp => (hr p hp).2.1) hpn
      have hW2 : W + 800 ≤ 1000000 := by omega
      have hN2 : 41 ≤ N := by omega
      have ln := wr_line hM hV hn3 hN2 hpn M2 (S 57 1) (Int32.ofNat 0) (A 58) W full len signs out wr hR hW2
      obtain ⟨W1, full1, len1, signs1, out1, wr1, a1, a2, a3, a4⟩ := ln
      obtain ⟨W2, full2, len2, signs2, out2, wr2, K1, K2, b1, b2, b3, b4⟩ := ih (p + 1) M1 M2 W1 full1 len1 signs1 out1 wr1 (by omega) (by omega) (by omega) a1 (by omega)
      refine ⟨W2, full2, len2, signs2, out2, wr2, K1, K2, b1, b2, ?_, ?_⟩
      · rw [← b3, xf_xt_write_9_s, hn2]
        simp (disch := omega) only [wq_ltT, wq_ltF, wq_inT, wq_clamp, wq_eqF, wq_eqm, wq_meq, wq_add, wq_mul, wq_subT, eq_self, Bool.false_eq_true, ↓reduceIte, Option.bind_some, Sum.elim_inl, Sum.elim_inr, ↓wq_f0b, ↓wq_f1b, ↓wq_f2b, ↓wq_r0b, ↓wq_r1b, ↓Option.bind_some, ↓wq_b e1, ↓wq_b a3]
      · rw [a4, b4]
  obtain ⟨W, full, len, signs, out, wr, K1, K2, ⟨w0, w1, w2, w3, w4⟩, b2, b3, b4⟩ := loop n 0 N N 0 (Int32.ofNat 0) (Int32.ofNat 0) (A 4) (A 59) (Int32.ofNat 0) (by omega) (by omega) (by omega) ⟨by omega, rfl, rfl, rfl, fun j hj => absurd hj (by omega)⟩ (by omega)
  have c0 : xf_xt_write (A 23) (S 15 1) (L 17) (A 16) (A 19) (A 18) (A 20) (A 22) (S 15 2) (A 21) N (S 3 2) (S 3 1) (A 4) (S 1 2) (S 1 1) (A 2) = xf_xt_write_9 (A 23) (S 15 1) (L 17) (A 16) (A 19) (A 18) (A 20) (A 22) (S 15 2) (A 21) N (K1 + 1) full len signs (S 1 2) (S 1 1) (A 2) (Int32.ofNat n) := by
    rw [← b3, xf_xt_write_s, xf_pg_clear_s, Option.bind_some]
  have d0 : xf_rf_write (A 73) (A 68) (A 66) (A 69) (A 67) (A 70) (A 71) (A 72) N (A 59) (S 57 1) (A 58) (S 57 0) (S 57 24) = xf_rf_write_12 (A 73) (A 68) (A 66) (A 69) (A 67) (A 70) (A 71) (A 72) N (K2 + 1) out (S 57 1) (A 58) (Int32.ofNat 0) wr (Int32.ofNat n) := by
    rw [← b4, xf_rf_write_s]
  rw [c0, d0, w1, w2, w3]
  by_cases hW : W ≤ 1200
  · rw [if_pos hW, if_pos hW]
    obtain ⟨text', t1, t2⟩ := wr_copy (items := A 73) (letters := A 68) (lines := A 66) (names := A 69) (numbers := A 67) (parts := A 70) (sorts := A 71) (values := A 72) (out := out) (N := N) hW (S 57 1) (Int32.ofNat 0) W 0 N (A 58) (by omega) (by omega) (fun i hi => absurd hi (by omega))
    have cg : xr_cg (Int32.ofNat 0) (Int32.ofNat 0) (Int32.ofNat W) 1200 1200 := by
      have e0 : ¬ Int32.ofNat 0 < (0 : Int32) := by decide
      refine ⟨⟨e0, e0, fun hh => (wq_ltF (Nat.zero_le W) (by omega)).mp hh⟩, ?_, ?_⟩
      · rw [wq_clamp (by omega), wq_clamp (by omega)]
        omega
      · rw [wq_clamp (by omega), wq_clamp (by omega)]
        omega
    have ft : ((List.range (Int32.ofNat W).toNatClampNeg).all fun i => fits .char (.int (signs ((Int32.ofNat 0).toNatClampNeg + i)))) = true := by
      rw [List.all_eq_true]
      intro i hi
      rw [List.mem_range, wq_clamp (by omega)] at hi
      rw [wq_clamp (by omega), Nat.zero_add]
      obtain ⟨_, k, k1, k2, k3⟩ := w4 i hi (by omega)
      rw [k3]
      show (decide ((0 : Int32) ≤ Int32.ofNat k) && decide (Int32.ofNat k ≤ (65535 : Int32))) = true
      rw [Bool.and_eq_true, decide_eq_true_eq, decide_eq_true_eq, Int32.le_iff_toInt_le, Int32.le_iff_toInt_le, wq_int (by omega)]
      have e1 : (0 : Int32).toInt = 0 := by decide
      have e2 : (65535 : Int32).toInt = 65535 := by decide
      omega
    have cp : xf_pg_copyFrom (Int32.ofNat 0) (Int32.ofNat W) signs (S 1 2) (S 1 1) (A 2) = some ((), Int32.ofNat 0, Int32.ofNat W, va_cpy signs (A 2) 0 0 W) := by
      rw [xf_pg_copyFrom_s, if_pos cg, if_pos ft, if_pos (by decide)]
      rw [wq_clamp (by omega), wq_clamp (by omega)]
    have h1 : xf_xt_write_9 (A 23) (S 15 1) (L 17) (A 16) (A 19) (A 18) (A 20) (A 22) (S 15 2) (A 21) N (K1 + 1) (Int32.ofNat 0) (Int32.ofNat W) signs (S 1 2) (S 1 1) (A 2) (Int32.ofNat n) = some (Int32.ofNat W, Int32.ofNat 0, Int32.ofNat W, signs, Int32.ofNat 0, Int32.ofNat W, va_cpy signs (A 2) 0 0 W) := by
      rw [hn2]
      simp (disch := omega) only [↓xf_xt_write_9_s, wq_ltT, wq_ltF, wq_inT, wq_clamp, wq_eqF, wq_eqm, wq_meq, wq_add, wq_mul, wq_subT, eq_self, Bool.false_eq_true, ↓reduceIte, Option.bind_some, Sum.elim_inl, Sum.elim_inr, ↓wq_f0b, ↓wq_f1b, ↓wq_f2b, ↓wq_r0b, ↓wq_r1b, ↓Option.bind_some, ↓wq_b cp]
    have h2 : xf_rf_write_12 (A 73) (A 68) (A 66) (A 69) (A 67) (A 70) (A 71) (A 72) N (K2 + 1) out (S 57 1) (A 58) (Int32.ofNat 0) (Int32.ofNat W) (Int32.ofNat n) = some (Int32.ofNat W, out, Int32.ofNat W, text', Int32.ofNat 0, Int32.ofNat W) := by
      simp (disch := omega) only [↓xf_rf_write_12_s, wq_ltT, wq_ltF, wq_inT, wq_clamp, wq_eqF, wq_eqm, wq_meq, wq_add, wq_mul, wq_subT, eq_self, Bool.false_eq_true, ↓reduceIte, Option.bind_some, Sum.elim_inl, Sum.elim_inr, ↓wq_f0b, ↓wq_f1b, ↓wq_f2b, ↓wq_r0b, ↓wq_r1b, ↓Option.bind_some, hn3, t2]
    refine ⟨_, _, h1, h2, rfl, ⟨⟨W, hW, rfl, rfl, fun j hj => ?_⟩, hK, ⟨n, R, u, o, a, z, m, t, c, s, hm⟩, hkept⟩⟩
    obtain ⟨x1, x2⟩ := w4 j hj (by omega)
    show text' j = va_cpy signs (A 2) 0 0 W j ∧ ∃ k, 32 ≤ k ∧ k ≤ 126 ∧ va_cpy signs (A 2) 0 0 W j = Int32.ofNat k
    rw [wq_cpyZ hj, t1 j hj]
    exact ⟨x1, x2⟩
  · rw [if_neg hW, if_neg hW]
    have h1 : xf_xt_write_9 (A 23) (S 15 1) (L 17) (A 16) (A 19) (A 18) (A 20) (A 22) (S 15 2) (A 21) N (K1 + 1) (Int32.ofNat 1) (Int32.ofNat 1200) signs (S 1 2) (S 1 1) (A 2) (Int32.ofNat n) = some (-2, Int32.ofNat 1, Int32.ofNat 1200, signs, S 1 2, S 1 1, A 2) := by
      rw [hn2]
      simp (disch := omega) only [↓xf_xt_write_9_s, wq_ltT, wq_ltF, wq_inT, wq_clamp, wq_eqF, wq_eqm, wq_meq, wq_add, wq_mul, wq_subT, eq_self, Bool.false_eq_true, ↓reduceIte, Option.bind_some, Sum.elim_inl, Sum.elim_inr, ↓wq_f0b, ↓wq_f1b, ↓wq_f2b, ↓wq_r0b, ↓wq_r1b, ↓Option.bind_some]
    have h2 : xf_rf_write_12 (A 73) (A 68) (A 66) (A 69) (A 67) (A 70) (A 71) (A 72) N (K2 + 1) out (S 57 1) (A 58) (Int32.ofNat 0) (Int32.ofNat W) (Int32.ofNat n) = some (-2, out, S 57 1, A 58, Int32.ofNat 0, Int32.ofNat W) := by
      simp (disch := omega) only [↓xf_rf_write_12_s, wq_ltT, wq_ltF, wq_inT, wq_clamp, wq_eqF, wq_eqm, wq_meq, wq_add, wq_mul, wq_subT, eq_self, Bool.false_eq_true, ↓reduceIte, Option.bind_some, Sum.elim_inl, Sum.elim_inr, ↓wq_f0b, ↓wq_f1b, ↓wq_f2b, ↓wq_r0b, ↓wq_r1b, ↓Option.bind_some, hn3]
    exact ⟨_, _, h1, h2, rfl, ⟨hT, hK, ⟨n, R, u, o, a, z, m, t, c, s, hm⟩, hkept⟩⟩
