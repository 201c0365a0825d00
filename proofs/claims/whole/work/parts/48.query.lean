/-! CALLS THAT ONLY LOOK. -/
section
variable {A : wp_A} {L : wp_L} {S : wp_A} {n R u : Nat} {o a z m : Nat → Nat} {t c s : Nat → Nat → Nat}
theorem wi_row (h : wi_Model A L S n R u o a z m t c s) : ∀ p, p < n → o p < 40 ∧ A 19 p = Int32.ofNat (o p) ∧ A 16 (o p) = Int32.ofNat (a p) := by
  intro p hp
  obtain ⟨_, ⟨⟨h1, h2, _⟩, h3, _⟩, _⟩ := h
  obtain ⟨h4, h5, h6, _⟩ := h3 p hp
  exact ⟨by omega, h5, h6⟩
theorem wi_n (h : wi_Model A L S n R u o a z m t c s) : n ≤ 40 ∧ S 15 1 = Int32.ofNat n ∧ A 66 0 = Int32.ofNat n := ⟨h.1.1.1, h.2.1.1.2.2.2.2.1, h.1.1.2⟩
theorem wi_a (h : wi_Model A L S n R u o a z m t c s) : ∀ p, p < n → A 67 p = Int32.ofNat (a p) ∧ 1 ≤ a p ∧ a p ≤ 999 := h.1.2.1
theorem wi_rowOf (h : wi_Model A L S n R u o a z m t c s) {N : Nat} (hN : 41 ≤ N) (x : Int32) : xf_md_rowOf (S 15 1) (A 16) (A 19) N x = some (wq_or o (wq_fx a n x)) := by
  rw [(wi_n h).2.1]
  exact wq_rowOf (wi_n h).1 (wi_row h) hN x
theorem wi_find (h : wi_Model A L S n R u o a z m t c s) {N : Nat} (hN : 41 ≤ N) (x : Int32) : xf_rf_find (A 66) (A 67) N (Int32.ofNat 0) x = some (wq_or (fun q => q) (wq_fx a n x)) := by
  have e := wq_find (b := 0) (a := a) (lines := A 66) (numbers := A 67) 0 rfl (by omega) (wi_n h).1 (wi_n h).2.2 (fun p hp => by rw [Nat.zero_add]; exact (wi_a h p hp).1) hN x
  rw [e]
  cases wq_fx a n x with
  | none => rfl
  | some q => simp only [wq_or, Nat.zero_add]
theorem wi_spot (h : wi_Model A L S n R u o a z m t c s) {N : Nat} (hN : 41 ≤ N) (x y : Int32) :
    (∃ p k, p < n ∧ k < z p ∧ x = Int32.ofNat (a p) ∧ y = Int32.ofNat k ∧ xf_xt_spotOrRefuse (S 15 1) (A 16) (A 19) (A 18) N x y = some (.inl (Int32.ofNat (o p * 8 + k))) ∧ xf_rf_argumentAt (A 66) (A 67) (A 70) N x y = some (Int32.ofNat (8 * p + k))) ∨
    (xf_xt_spotOrRefuse (S 15 1) (A 16) (A 19) (A 18) N x y = some (.inr "java/lang/IllegalArgumentException") ∧ xf_rf_argumentAt (A 66) (A 67) (A 70) N x y = some (-1)) := by
  have e1 := wi_rowOf h hN x
  have e2 := wi_find h hN x
  cases hf : wq_fx a n x with
  | none =>
    rw [hf] at e1 e2
    refine Or.inr ⟨?_, ?_⟩
    · simp (disch := omega) only [↓xf_xt_spotOrRefuse_28_s, ↓xf_xt_spotOrRefuse_27_s, ↓xf_xt_spotOrRefuse_s, ↓xf_xt_rowOrRefuse_19_s, ↓xf_xt_rowOrRefuse_s, ↓xf_xt_refuseUnless_s, e1, wq_or, wq_ltT, wq_ltF, wq_inT, wq_clamp, wq_eqF, wq_eqm, wq_meq, wq_add, wq_mul, wq_subT, eq_self, Bool.false_eq_true, ↓reduceIte, Option.bind_some, Sum.elim_inl, Sum.elim_inr, ↓wq_f0b, ↓wq_f1b, ↓wq_f2b, ↓wq_r0b, ↓wq_r1b, ↓Option.bind_some]
    · simp (disch := omega) only [↓xf_rf_argumentAt_36_s, ↓xf_rf_argumentAt_26_s, ↓xf_rf_argumentAt_s, e2, wq_or, wq_ltT, wq_ltF, wq_inT, wq_clamp, wq_eqF, wq_eqm, wq_meq, wq_add, wq_mul, wq_subT, eq_self, Bool.false_eq_true, ↓reduceIte, Option.bind_some, Sum.elim_inl, Sum.elim_inr, ↓wq_f0b, ↓wq_f1b, ↓wq_f2b, ↓wq_r0b, ↓wq_r1b, ↓Option.bind_some]
  | some p =>
    rw [hf] at e1 e2
    obtain ⟨hp, hx⟩ := wq_fx_some hf
    obtain ⟨r1, r2, r3⟩ := wi_row h p hp
    obtain ⟨_, _, _, r4, _⟩ := h.2.1.2.1 p hp
    obtain ⟨r5, r6, r7⟩ := h.1.2.2.2.2.1 p hp
    have hn := (wi_n h).1
    rcases wq_sgn y with hy | ⟨k, hk, rfl⟩
    · refine Or.inr ⟨?_, ?_⟩
      · simp (disch := omega) only [↓xf_xt_spotOrRefuse_28_s, ↓xf_xt_spotOrRefuse_27_s, ↓xf_xt_spotOrRefuse_s, ↓xf_xt_rowOrRefuse_19_s, ↓xf_xt_rowOrRefuse_s, ↓xf_xt_refuseUnless_s, e1, wq_or, wq_ltT, wq_ltF, wq_inT, wq_clamp, wq_eqF, wq_eqm, wq_meq, wq_add, wq_mul, wq_subT, eq_self, Bool.false_eq_true, ↓reduceIte, Option.bind_some, Sum.elim_inl, Sum.elim_inr, ↓wq_f0b, ↓wq_f1b, ↓wq_f2b, ↓wq_r0b, ↓wq_r1b, ↓Option.bind_some, hy]
      · simp (disch := omega) only [↓xf_rf_argumentAt_36_s, ↓xf_rf_argumentAt_26_s, ↓xf_rf_argumentAt_s, e2, wq_or, wq_ltT, wq_ltF, wq_inT, wq_clamp, wq_eqF, wq_eqm, wq_meq, wq_add, wq_mul, wq_subT, eq_self, Bool.false_eq_true, ↓reduceIte, Option.bind_some, Sum.elim_inl, Sum.elim_inr, ↓wq_f0b, ↓wq_f1b, ↓wq_f2b, ↓wq_r0b, ↓wq_r1b, ↓Option.bind_some, hy]
    · by_cases hz : k < z p
      · refine Or.inl ⟨p, k, hp, hz, hx.symm, rfl, ?_, ?_⟩
        · simp (disch := omega) only [↓xf_xt_spotOrRefuse_28_s, ↓xf_xt_spotOrRefuse_27_s, ↓xf_xt_spotOrRefuse_s, ↓xf_xt_rowOrRefuse_19_s, ↓xf_xt_rowOrRefuse_s, ↓xf_xt_refuseUnless_s, e1, wq_or, wq_ltT, wq_ltF, wq_inT, wq_clamp, wq_eqF, wq_eqm, wq_meq, wq_add, wq_mul, wq_subT, eq_self, Bool.false_eq_true, ↓reduceIte, Option.bind_some, Sum.elim_inl, Sum.elim_inr, ↓wq_f0b, ↓wq_f1b, ↓wq_f2b, ↓wq_r0b, ↓wq_r1b, ↓Option.bind_some, r4]
        · simp (disch := omega) only [↓xf_rf_argumentAt_36_s, ↓xf_rf_argumentAt_26_s, ↓xf_rf_argumentAt_s, e2, wq_or, wq_ltT, wq_ltF, wq_inT, wq_clamp, wq_eqF, wq_eqm, wq_meq, wq_add, wq_mul, wq_subT, eq_self, Bool.false_eq_true, ↓reduceIte, Option.bind_some, Sum.elim_inl, Sum.elim_inr, ↓wq_f0b, ↓wq_f1b, ↓wq_f2b, ↓wq_r0b, ↓wq_r1b, ↓Option.bind_some, r5]
      · refine Or.inr ⟨?_, ?_⟩
        · simp (disch := omega) only [↓xf_xt_spotOrRefuse_28_s, ↓xf_xt_spotOrRefuse_27_s, ↓xf_xt_spotOrRefuse_s, ↓xf_xt_rowOrRefuse_19_s, ↓xf_xt_rowOrRefuse_s, ↓xf_xt_refuseUnless_s, e1, wq_or, wq_ltT, wq_ltF, wq_inT, wq_clamp, wq_eqF, wq_eqm, wq_meq, wq_add, wq_mul, wq_subT, eq_self, Bool.false_eq_true, ↓reduceIte, Option.bind_some, Sum.elim_inl, Sum.elim_inr, ↓wq_f0b, ↓wq_f1b, ↓wq_f2b, ↓wq_r0b, ↓wq_r1b, ↓Option.bind_some, r4]
        · simp (disch := omega) only [↓xf_rf_argumentAt_36_s, ↓xf_rf_argumentAt_26_s, ↓xf_rf_argumentAt_s, e2, wq_or, wq_ltT, wq_ltF, wq_inT, wq_clamp, wq_eqF, wq_eqm, wq_meq, wq_add, wq_mul, wq_subT, eq_self, Bool.false_eq_true, ↓reduceIte, Option.bind_some, Sum.elim_inl, Sum.elim_inr, ↓wq_f0b, ↓wq_f1b, ↓wq_f2b, ↓wq_r0b, ↓wq_r1b, ↓Option.bind_some, r5]
end
theorem wc_19 {sc : Nat × (Nat → Int32)} {N : Nat} : wp_Ok sc wi_I (xf_law_19 sc N) := by
  apply wp_red_19
  intro A L S x hI
  obtain ⟨⟨e, t1, t2, t3, _⟩, ⟨T, y, w, ⟨k1, k2, k3⟩, _⟩, ⟨n, R, u, o, a, z, m, t, c, s, hm⟩, ⟨n', R', u', o', a', z', m', t', c', s', hk⟩⟩ := id hI
  have m1 := wi_n hm
  have q1 : S 33 1 = Int32.ofNat n' := hk.2.1.2.2.2.2.1
  have q2 : A 66 2 = Int32.ofNat n' := hk.1.1.2
  rw [q1, k2, m1.2.1, t2, t3]
  rcases wq_sgn x with hx | ⟨k, hk', rfl⟩
  · have h1 : xf_la_count (Int32.ofNat n') (Int32.ofNat T) (Int32.ofNat n) (Int32.ofNat e) 1 (L 77) x = some (Int32.ofNat 1, L 77) := by
      simp (disch := omega) only [↓xf_la_count_s, ↓xf_xt_count_64_s, ↓xf_xt_count_14_s, ↓xf_xt_count_13_s, ↓xf_xt_count_s, ↓xf_xt_refuseUnless_s, wq_ltT, wq_ltF, wq_inT, wq_clamp, wq_eqF, wq_eqm, wq_meq, wq_add, wq_mul, wq_subT, eq_self, Bool.false_eq_true, ↓reduceIte, Option.bind_some, Sum.elim_inl, Sum.elim_inr, ↓wq_f0b, ↓wq_f1b, ↓wq_f2b, ↓wq_r0b, ↓wq_r1b, ↓Option.bind_some, hx]
    have h2 : xf_rf_count (A 60) (A 66) (Int32.ofNat e) (S 57 0) x = some (Int32.ofNat 0, Int32.ofNat 1) := by
      simp (disch := omega) only [↓xf_rf_count_74_s, ↓xf_rf_count_20_s, ↓xf_rf_count_15_s, ↓xf_rf_count_s, wq_f1, wq_ltT, wq_ltF, wq_inT, wq_clamp, wq_eqF, wq_eqm, wq_meq, wq_add, wq_mul, wq_subT, eq_self, Bool.false_eq_true, ↓reduceIte, Option.bind_some, Sum.elim_inl, Sum.elim_inr, ↓wq_f0b, ↓wq_f1b, ↓wq_f2b, ↓wq_r0b, ↓wq_r1b, ↓Option.bind_some, hx]
    exact ⟨_, _, h1, h2, ⟨rfl, fun h => absurd h wq_ne1⟩, wi_out hI⟩
  · by_cases h3 : 3 < k
    · have h1 : xf_la_count (Int32.ofNat n') (Int32.ofNat T) (Int32.ofNat n) (Int32.ofNat e) 1 (L 77) (Int32.ofNat k) = some (Int32.ofNat 1, L 77) := by
        simp (disch := omega) only [↓xf_la_count_s, ↓xf_xt_count_64_s, ↓xf_xt_count_14_s, ↓xf_xt_count_13_s, ↓xf_xt_count_s, ↓xf_xt_refuseUnless_s, wq_ltT, wq_ltF, wq_inT, wq_clamp, wq_eqF, wq_eqm, wq_meq, wq_add, wq_mul, wq_subT, eq_self, Bool.false_eq_true, ↓reduceIte, Option.bind_some, Sum.elim_inl, Sum.elim_inr, ↓wq_f0b, ↓wq_f1b, ↓wq_f2b, ↓wq_r0b, ↓wq_r1b, ↓Option.bind_some]
      have h2 : xf_rf_count (A 60) (A 66) (Int32.ofNat e) (S 57 0) (Int32.ofNat k) = some (Int32.ofNat 0, Int32.ofNat 1) := by
        simp (disch := omega) only [↓xf_rf_count_74_s, ↓xf_rf_count_20_s, ↓xf_rf_count_15_s, ↓xf_rf_count_s, wq_f1, wq_ltT, wq_ltF, wq_inT, wq_clamp, wq_eqF, wq_eqm, wq_meq, wq_add, wq_mul, wq_subT, eq_self, Bool.false_eq_true, ↓reduceIte, Option.bind_some, Sum.elim_inl, Sum.elim_inr, ↓wq_f0b, ↓wq_f1b, ↓wq_f2b, ↓wq_r0b, ↓wq_r1b, ↓Option.bind_some]
      exact ⟨_, _, h1, h2, ⟨rfl, fun h => absurd h wq_ne1⟩, wi_out hI⟩
    · have h4 : ∃ v, xf_la_count (Int32.ofNat n') (Int32.ofNat T) (Int32.ofNat n) (Int32.ofNat e) 1 (L 77) (Int32.ofNat k) = some (Int32.ofNat 0, vp_updL (L 77) 0 v.toInt64) ∧ xf_rf_count (A 60) (A 66) (Int32.ofNat e) (S 57 0) (Int32.ofNat k) = some (v, Int32.ofNat 0) := by
        by_cases g0 : k = 0
        · subst g0
          refine ⟨Int32.ofNat e, ?_, ?_⟩
          · simp (disch := omega) only [↓xf_la_count_s, ↓xf_xt_count_64_s, ↓xf_xt_count_14_s, ↓xf_xt_count_13_s, ↓xf_xt_count_s, ↓xf_xt_refuseUnless_s, wq_ltT, wq_ltF, wq_inT, wq_clamp, wq_eqF, wq_eqm, wq_meq, wq_add, wq_mul, wq_subT, eq_self, Bool.false_eq_true, ↓reduceIte, Option.bind_some, Sum.elim_inl, Sum.elim_inr, ↓wq_f0b, ↓wq_f1b, ↓wq_f2b, ↓wq_r0b, ↓wq_r1b, ↓Option.bind_some]
          · simp (disch := omega) only [↓xf_rf_count_74_s, ↓xf_rf_count_20_s, ↓xf_rf_count_15_s, ↓xf_rf_count_s, wq_f0, wq_ltT, wq_ltF, wq_inT, wq_clamp, wq_eqF, wq_eqm, wq_meq, wq_add, wq_mul, wq_subT, eq_self, Bool.false_eq_true, ↓reduceIte, Option.bind_some, Sum.elim_inl, Sum.elim_inr, ↓wq_f0b, ↓wq_f1b, ↓wq_f2b, ↓wq_r0b, ↓wq_r1b, ↓Option.bind_some]
        · by_cases g1 : k = 1
          · subst g1
            refine ⟨Int32.ofNat T, ?_, ?_⟩
            · simp (disch := omega) only [↓xf_la_count_s, ↓xf_xt_count_64_s, ↓xf_xt_count_14_s, ↓xf_xt_count_13_s, ↓xf_xt_count_s, ↓xf_xt_refuseUnless_s, wq_ltT, wq_ltF, wq_inT, wq_clamp, wq_eqF, wq_eqm, wq_meq, wq_add, wq_mul, wq_subT, eq_self, Bool.false_eq_true, ↓reduceIte, Option.bind_some, Sum.elim_inl, Sum.elim_inr, ↓wq_f0b, ↓wq_f1b, ↓wq_f2b, ↓wq_r0b, ↓wq_r1b, ↓Option.bind_some]
            · simp (disch := omega) only [↓xf_rf_count_74_s, ↓xf_rf_count_20_s, ↓xf_rf_count_15_s, ↓xf_rf_count_s, wq_f0, wq_ltT, wq_ltF, wq_inT, wq_clamp, wq_eqF, wq_eqm, wq_meq, wq_add, wq_mul, wq_subT, eq_self, Bool.false_eq_true, ↓reduceIte, Option.bind_some, Sum.elim_inl, Sum.elim_inr, ↓wq_f0b, ↓wq_f1b, ↓wq_f2b, ↓wq_r0b, ↓wq_r1b, ↓Option.bind_some, k3]
          · by_cases g2 : k = 2
            · subst g2
              refine ⟨Int32.ofNat n, ?_, ?_⟩
              · simp (disch := omega) only [↓xf_la_count_s, ↓xf_xt_count_64_s, ↓xf_xt_count_14_s, ↓xf_xt_count_13_s, ↓xf_xt_count_s, ↓xf_xt_refuseUnless_s, wq_ltT, wq_ltF, wq_inT, wq_clamp, wq_eqF, wq_eqm, wq_meq, wq_add, wq_mul, wq_subT, eq_self, Bool.false_eq_true, ↓reduceIte, Option.bind_some, Sum.elim_inl, Sum.elim_inr, ↓wq_f0b, ↓wq_f1b, ↓wq_f2b, ↓wq_r0b, ↓wq_r1b, ↓Option.bind_some]
              · simp (disch := omega) only [↓xf_rf_count_74_s, ↓xf_rf_count_20_s, ↓xf_rf_count_15_s, ↓xf_rf_count_s, wq_f0, wq_ltT, wq_ltF, wq_inT, wq_clamp, wq_eqF, wq_eqm, wq_meq, wq_add, wq_mul, wq_subT, eq_self, Bool.false_eq_true, ↓reduceIte, Option.bind_some, Sum.elim_inl, Sum.elim_inr, ↓wq_f0b, ↓wq_f1b, ↓wq_f2b, ↓wq_r0b, ↓wq_r1b, ↓Option.bind_some, m1.2.2]
            · refine ⟨Int32.ofNat n', ?_, ?_⟩
              · simp (disch := omega) only [↓xf_la_count_s, ↓xf_xt_count_64_s, ↓xf_xt_count_14_s, ↓xf_xt_count_13_s, ↓xf_xt_count_s, ↓xf_xt_refuseUnless_s, wq_ltT, wq_ltF, wq_inT, wq_clamp, wq_eqF, wq_eqm, wq_meq, wq_add, wq_mul, wq_subT, eq_self, Bool.false_eq_true, ↓reduceIte, Option.bind_some, Sum.elim_inl, Sum.elim_inr, ↓wq_f0b, ↓wq_f1b, ↓wq_f2b, ↓wq_r0b, ↓wq_r1b, ↓Option.bind_some]
              · simp (disch := omega) only [↓xf_rf_count_74_s, ↓xf_rf_count_20_s, ↓xf_rf_count_15_s, ↓xf_rf_count_s, wq_f0, wq_ltT, wq_ltF, wq_inT, wq_clamp, wq_eqF, wq_eqm, wq_meq, wq_add, wq_mul, wq_subT, eq_self, Bool.false_eq_true, ↓reduceIte, Option.bind_some, Sum.elim_inl, Sum.elim_inr, ↓wq_f0b, ↓wq_f1b, ↓wq_f2b, ↓wq_r0b, ↓wq_r1b, ↓Option.bind_some, q2]
      obtain ⟨v, h1, h2⟩ := h4
      exact ⟨_, _, h1, h2, ⟨rfl, fun _ => wp_cmp _⟩, wi_out hI⟩
theorem wc_7 {sc : Nat × (Nat → Int32)} {N : Nat} : wp_Ok sc wi_I (xf_law_7 sc N) := by
  apply wp_red_7
  intro A L S x hI
  obtain ⟨_, _, ⟨n, R, u, o, a, z, m, t, c, s, hm⟩, _⟩ := id hI
  obtain ⟨m1, m2, m3⟩ := wi_n hm
  have hr := wi_row hm
  rw [m2]
  rcases wq_sgn x with hx | ⟨k, hk, rfl⟩
  · have h1 : xf_la_line (Int32.ofNat n) (A 16) (A 19) 1 (L 77) x = some (Int32.ofNat 1, L 77) := by
      simp (disch := omega) only [↓xf_la_line_s, ↓xf_xt_line_39_s, ↓xf_xt_line_9_s, ↓xf_xt_line_s, ↓xf_xt_refuseUnless_s, wq_ltT, wq_ltF, wq_inT, wq_clamp, wq_eqF, wq_eqm, wq_meq, wq_add, wq_mul, wq_subT, eq_self, Bool.false_eq_true, ↓reduceIte, Option.bind_some, Sum.elim_inl, Sum.elim_inr, ↓wq_f0b, ↓wq_f1b, ↓wq_f2b, ↓wq_r0b, ↓wq_r1b, ↓Option.bind_some, hx]
    have h2 : xf_rf_line (A 66) (A 67) (S 57 0) x = some (Int32.ofNat 0, Int32.ofNat 1) := by
      simp (disch := omega) only [↓xf_rf_line_44_s, ↓xf_rf_line_15_s, ↓xf_rf_line_s, wq_f1, wq_ltT, wq_ltF, wq_inT, wq_clamp, wq_eqF, wq_eqm, wq_meq, wq_add, wq_mul, wq_subT, eq_self, Bool.false_eq_true, ↓reduceIte, Option.bind_some, Sum.elim_inl, Sum.elim_inr, ↓wq_f0b, ↓wq_f1b, ↓wq_f2b, ↓wq_r0b, ↓wq_r1b, ↓Option.bind_some, hx]
    exact ⟨_, _, h1, h2, ⟨rfl, fun h => absurd h wq_ne1⟩, wi_out hI⟩
  · by_cases hkn : k < n
    · have e1 := wq_rowAt m1 (fun p hp => (hr p hp).2.1) hkn
      obtain ⟨r1, r2, r3⟩ := hr k hkn
      have r4 := (wi_a hm k hkn).1
      have h1 : xf_la_line (Int32.ofNat n) (A 16) (A 19) 1 (L 77) (Int32.ofNat k) = some (Int32.ofNat 0, vp_updL (L 77) 0 (Int32.ofNat (a k)).toInt64) := by
        simp (disch := omega) only [↓xf_la_line_s, ↓xf_xt_line_39_s, ↓xf_xt_line_9_s, ↓xf_xt_line_s, ↓xf_xt_refuseUnless_s, wq_ltT, wq_ltF, wq_inT, wq_clamp, wq_eqF, wq_eqm, wq_meq, wq_add, wq_mul, wq_subT, eq_self, Bool.false_eq_true, ↓reduceIte, Option.bind_some, Sum.elim_inl, Sum.elim_inr, ↓wq_f0b, ↓wq_f1b, ↓wq_f2b, ↓wq_r0b, ↓wq_r1b, ↓Option.bind_some, e1, r3]
      have h2 : xf_rf_line (A 66) (A 67) (S 57 0) (Int32.ofNat k) = some (Int32.ofNat (a k), Int32.ofNat 0) := by
        simp (disch := omega) only [↓xf_rf_line_44_s, ↓xf_rf_line_15_s, ↓xf_rf_line_s, wq_f0, wq_ltT, wq_ltF, wq_inT, wq_clamp, wq_eqF, wq_eqm, wq_meq, wq_add, wq_mul, wq_subT, eq_self, Bool.false_eq_true, ↓reduceIte, Option.bind_some, Sum.elim_inl, Sum.elim_inr, ↓wq_f0b, ↓wq_f1b, ↓wq_f2b, ↓wq_r0b, ↓wq_r1b, ↓Option.bind_some, m3, r4]
      exact ⟨_, _, h1, h2, ⟨rfl, fun _ => wp_cmp _⟩, wi_out hI⟩
    · have e1 := wq_rowAt2 (order := A 19) m1 (Nat.le_of_not_lt hkn) hk
      have h1 : xf_la_line (Int32.ofNat n) (A 16) (A 19) 1 (L 77) (Int32.ofNat k) = some (Int32.ofNat 0, vp_updL (L 77) 0 (-1 : Int32).toInt64) := by
        simp (disch := omega) only [↓xf_la_line_s, ↓xf_xt_line_39_s, ↓xf_xt_line_9_s, ↓xf_xt_line_s, ↓xf_xt_refuseUnless_s, wq_ltT, wq_ltF, wq_inT, wq_clamp, wq_eqF, wq_eqm, wq_meq, wq_add, wq_mul, wq_subT, eq_self, Bool.false_eq_true, ↓reduceIte, Option.bind_some, Sum.elim_inl, Sum.elim_inr, ↓wq_f0b, ↓wq_f1b, ↓wq_f2b, ↓wq_r0b, ↓wq_r1b, ↓Option.bind_some, e1]
      have h2 : xf_rf_line (A 66) (A 67) (S 57 0) (Int32.ofNat k) = some (-1, Int32.ofNat 0) := by
        simp (disch := omega) only [↓xf_rf_line_44_s, ↓xf_rf_line_15_s, ↓xf_rf_line_s, wq_f0, wq_ltT, wq_ltF, wq_inT, wq_clamp, wq_eqF, wq_eqm, wq_meq, wq_add, wq_mul, wq_subT, eq_self, Bool.false_eq_true, ↓reduceIte, Option.bind_some, Sum.elim_inl, Sum.elim_inr, ↓wq_f0b, ↓wq_f1b, ↓wq_f2b, ↓wq_r0b, ↓wq_r1b, ↓Option.bind_some, m3]
      exact ⟨_, _, h1, h2, ⟨rfl, fun _ => wp_cmp _⟩, wi_out hI⟩
