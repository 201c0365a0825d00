/-! TOLD AND RING. -/
section
variable {A : wp_A} {L : wp_L} {S : wp_A} {n R u : Nat} {o a z m : Nat → Nat} {t c s : Nat → Nat → Nat}
theorem wi_refs (h : wi_Model A L S n R u o a z m t c s) {N p : Nat} (hN : 41 ≤ N) (hp : p < n) : ∃ v, xf_md_referencesOf (A 18) (A 20) (A 21) N (Int32.ofNat (o p)) = some v ∧ xf_rf_referencesOf (A 70) (A 71) (A 72) N (Int32.ofNat p) = some v := by
  have hn := (wi_n h).1
  obtain ⟨r1, _⟩ := wi_row h p hp
  obtain ⟨_, _, _, r4, _⟩ := h.2.1.2.1 p hp
  obtain ⟨r5, r6, r7⟩ := h.1.2.2.2.2.1 p hp
  rw [xf_md_referencesOf_s, xf_rf_referencesOf_s, wq_mul]
  suffices H : ∀ l k M (x : Int32), k + l = z p → l < M → ∃ v, xf_md_referencesOf_4 (A 18) (A 20) (A 21) N M (Int32.ofNat (o p)) x (Int32.ofNat k) = some v ∧ xf_rf_referencesOf_7 (A 70) (A 71) (A 72) N M (Int32.ofNat p) x (Int32.ofNat (8 * p + k)) = some v from H (z p) 0 N (Int32.ofNat 0) (by omega) (by omega)
  intro l
  induction l with
  | zero =>
    intro k M x hk hM
    obtain ⟨M', rfl⟩ : ∃ M', M = M' + 1 := ⟨M - 1, by omega⟩
    refine ⟨x, ?_, ?_⟩
    · simp (disch := omega) only [xf_md_referencesOf_4_s, wq_ltT, wq_ltF, wq_inT, wq_clamp, wq_eqF, wq_eqm, wq_meq, wq_add, wq_mul, wq_subT, eq_self, Bool.false_eq_true, ↓reduceIte, Option.bind_some, Sum.elim_inl, Sum.elim_inr, ↓wq_f0b, ↓wq_f1b, ↓wq_f2b, ↓wq_r0b, ↓wq_r1b, ↓Option.bind_some, r4]
    · simp (disch := omega) only [xf_rf_referencesOf_7_s, wq_ltT, wq_ltF, wq_inT, wq_clamp, wq_eqF, wq_eqm, wq_meq, wq_add, wq_mul, wq_subT, eq_self, Bool.false_eq_true, ↓reduceIte, Option.bind_some, Sum.elim_inl, Sum.elim_inr, ↓wq_f0b, ↓wq_f1b, ↓wq_f2b, ↓wq_r0b, ↓wq_r1b, ↓Option.bind_some, r5]
  | succ l ih =>
    intro k M x hk hM
    obtain ⟨M', rfl⟩ : ∃ M', M = M' + 1 := ⟨M - 1, by omega⟩
    have hkz : k < z p := by omega
    obtain ⟨f2, f3, _⟩ := h.2.1.2.2.2.1 p k hp hkz
    obtain ⟨w1, w2, w3, w4, w5, w6, w7, w8, _⟩ := h.1.2.2.2.2.2 p k hp hkz
    have er := wq_references h.1 hp hkz
    by_cases h2 : t p k = 2
    · have e2 : wq_rc (t p k) (c p k) = 1 := by
        unfold wq_rc
        rw [if_pos h2]
      obtain ⟨v, v1, v2⟩ := ih (k + 1) M' (x + Int32.ofNat 1) (by omega) (by omega)
      refine ⟨v, ?_, ?_⟩
      · rw [← v1]
        simp (disch := omega) only [xf_md_referencesOf_4_s, xf_md_referencesOf_60_s, wq_ltT, wq_ltF, wq_inT, wq_clamp, wq_eqF, wq_eqm, wq_meq, wq_add, wq_mul, wq_subT, eq_self, Bool.false_eq_true, ↓reduceIte, Option.bind_some, Sum.elim_inl, Sum.elim_inr, ↓wq_f0b, ↓wq_f1b, ↓wq_f2b, ↓wq_r0b, ↓wq_r1b, ↓Option.bind_some, r4, f2, h2]
      · rw [← v2]
        simp (disch := omega) only [xf_rf_referencesOf_7_s, wq_ltT, wq_ltF, wq_inT, wq_clamp, wq_eqF, wq_eqm, wq_meq, wq_add, wq_mul, wq_subT, eq_self, Bool.false_eq_true, ↓reduceIte, Option.bind_some, Sum.elim_inl, Sum.elim_inr, ↓wq_f0b, ↓wq_f1b, ↓wq_f2b, ↓wq_r0b, ↓wq_r1b, ↓Option.bind_some, r5, er, e2, Nat.add_assoc]
    · by_cases h4 : t p k = 4
      · have e2 : wq_rc (t p k) (c p k) = c p k := by
          unfold wq_rc
          rw [if_neg h2, if_pos h4]
        obtain ⟨v, v1, v2⟩ := ih (k + 1) M' (x + Int32.ofNat (c p k)) (by omega) (by omega)
        refine ⟨v, ?_, ?_⟩
        · rw [← v1]
          simp (disch := omega) only [xf_md_referencesOf_4_s, xf_md_referencesOf_60_s, wq_ltT, wq_ltF, wq_inT, wq_clamp, wq_eqF, wq_eqm, wq_meq, wq_add, wq_mul, wq_subT, eq_self, Bool.false_eq_true, ↓reduceIte, Option.bind_some, Sum.elim_inl, Sum.elim_inr, ↓wq_f0b, ↓wq_f1b, ↓wq_f2b, ↓wq_r0b, ↓wq_r1b, ↓Option.bind_some, r4, f2, h4, f3, (w8 h4).1]
        · rw [← v2]
          simp (disch := omega) only [xf_rf_referencesOf_7_s, wq_ltT, wq_ltF, wq_inT, wq_clamp, wq_eqF, wq_eqm, wq_meq, wq_add, wq_mul, wq_subT, eq_self, Bool.false_eq_true, ↓reduceIte, Option.bind_some, Sum.elim_inl, Sum.elim_inr, ↓wq_f0b, ↓wq_f1b, ↓wq_f2b, ↓wq_r0b, ↓wq_r1b, ↓Option.bind_some, r5, er, e2, Nat.add_assoc]
      · have e2 : wq_rc (t p k) (c p k) = 0 := by
          unfold wq_rc
          rw [if_neg h2, if_neg h4]
        obtain ⟨v, v1, v2⟩ := ih (k + 1) M' x (by omega) (by omega)
        have e0 : x + Int32.ofNat 0 = x := Int32.add_zero x
        refine ⟨v, ?_, ?_⟩
        · rw [← v1]
          simp (disch := omega) only [xf_md_referencesOf_4_s, xf_md_referencesOf_60_s, wq_ltT, wq_ltF, wq_inT, wq_clamp, wq_eqF, wq_eqm, wq_meq, wq_add, wq_mul, wq_subT, eq_self, Bool.false_eq_true, ↓reduceIte, Option.bind_some, Sum.elim_inl, Sum.elim_inr, ↓wq_f0b, ↓wq_f1b, ↓wq_f2b, ↓wq_r0b, ↓wq_r1b, ↓Option.bind_some, r4, f2, h2, h4]
        · rw [← v2]
          simp (disch := omega) only [xf_rf_referencesOf_7_s, wq_ltT, wq_ltF, wq_inT, wq_clamp, wq_eqF, wq_eqm, wq_meq, wq_add, wq_mul, wq_subT, eq_self, Bool.false_eq_true, ↓reduceIte, Option.bind_some, Sum.elim_inl, Sum.elim_inr, ↓wq_f0b, ↓wq_f1b, ↓wq_f2b, ↓wq_r0b, ↓wq_r1b, ↓Option.bind_some, r5, er, e2, e0, Nat.add_assoc]
end
theorem wc_8 {sc : Nat × (Nat → Int32)} {N : Nat} (hN : 60 ≤ N) : wp_Ok sc wi_I (xf_law_8 sc N) := by
  apply wp_red_8
  intro A L S x y hI
  obtain ⟨_, ⟨T, y', w, hK⟩, ⟨n, R, u, o, a, z, m, t, c, s, hm⟩, _⟩ := id hI
  have e1 := wi_rowOf hm (N := N) (by omega) x
  have e2 := wi_find hm (N := N) (by omega) x
  obtain ⟨hn, hn2, hn3⟩ := wi_n hm
  cases hf : wq_fx a n x with
  | none =>
    rw [hf] at e1 e2
    have h1 : xf_la_told (A 45) (L 6) (S 5 0) (S 15 1) (L 17) (A 16) (A 19) (A 18) (A 20) (A 21) 1 N (L 77) x y = some (Int32.ofNat 1, L 77) := by
      simp (disch := omega) only [↓xf_la_told_s, xf_xt_told_s, ↓xf_xt_rowOrRefuse_19_s, ↓xf_xt_rowOrRefuse_s, ↓xf_xt_refuseUnless_s, e1, wq_or, wq_ltT, wq_ltF, wq_inT, wq_clamp, wq_eqF, wq_eqm, wq_meq, wq_add, wq_mul, wq_subT, eq_self, Bool.false_eq_true, ↓reduceIte, Option.bind_some, Sum.elim_inl, Sum.elim_inr, ↓wq_f0b, ↓wq_f1b, ↓wq_f2b, ↓wq_r0b, ↓wq_r1b, ↓Option.bind_some]
    have h2 : xf_rf_told (A 73) (A 61) (A 62) (A 60) (A 68) (A 66) (A 69) (A 67) (A 70) (A 71) (A 72) N (A 74) (S 57 0) (L 76) x y = some (Int32.ofNat 0, A 74, Int32.ofNat 1, L 76) := by
      simp (disch := omega) only [xf_rf_told_s, xf_rf_told_27_s, xf_rf_told_32_s, e2, wq_or, wq_f1, wq_ltT, wq_ltF, wq_inT, wq_clamp, wq_eqF, wq_eqm, wq_meq, wq_add, wq_mul, wq_subT, eq_self, Bool.false_eq_true, ↓reduceIte, Option.bind_some, Sum.elim_inl, Sum.elim_inr, ↓wq_f0b, ↓wq_f1b, ↓wq_f2b, ↓wq_r0b, ↓wq_r1b, ↓Option.bind_some]
    exact ⟨_, _, h1, h2, ⟨rfl, fun h => absurd h wq_ne1⟩, wi_out7476 hI⟩
  | some p =>
    rw [hf] at e1 e2
    obtain ⟨hp, _⟩ := wq_fx_some hf
    obtain ⟨r1, _⟩ := wi_row hm p hp
    rcases wq_sgn y with hy | ⟨k, hk, rfl⟩
    · have h1 : xf_la_told (A 45) (L 6) (S 5 0) (S 15 1) (L 17) (A 16) (A 19) (A 18) (A 20) (A 21) 1 N (L 77) x y = some (Int32.ofNat 1, L 77) := by
        simp (disch := omega) only [↓xf_la_told_s, xf_xt_told_s, xf_xt_told_19_s, xf_xt_told_20_s, ↓xf_xt_rowOrRefuse_19_s, ↓xf_xt_rowOrRefuse_s, ↓xf_xt_refuseUnless_s, e1, wq_or, wq_ltT, wq_ltF, wq_inT, wq_clamp, wq_eqF, wq_eqm, wq_meq, wq_add, wq_mul, wq_subT, eq_self, Bool.false_eq_true, ↓reduceIte, Option.bind_some, Sum.elim_inl, Sum.elim_inr, ↓wq_f0b, ↓wq_f1b, ↓wq_f2b, ↓wq_r0b, ↓wq_r1b, ↓Option.bind_some, hy]
      have h2 : xf_rf_told (A 73) (A 61) (A 62) (A 60) (A 68) (A 66) (A 69) (A 67) (A 70) (A 71) (A 72) N (A 74) (S 57 0) (L 76) x y = some (Int32.ofNat 0, A 74, Int32.ofNat 1, L 76) := by
        simp (disch := omega) only [xf_rf_told_s, xf_rf_told_27_s, xf_rf_told_32_s, e2, wq_or, wq_f1, wq_ltT, wq_ltF, wq_inT, wq_clamp, wq_eqF, wq_eqm, wq_meq, wq_add, wq_mul, wq_subT, eq_self, Bool.false_eq_true, ↓reduceIte, Option.bind_some, Sum.elim_inl, Sum.elim_inr, ↓wq_f0b, ↓wq_f1b, ↓wq_f2b, ↓wq_r0b, ↓wq_r1b, ↓Option.bind_some, hy]
      exact ⟨_, _, h1, h2, ⟨rfl, fun h => absurd h wq_ne1⟩, wi_out7476 hI⟩
    · by_cases h3 : 3 < k
      · have h1 : xf_la_told (A 45) (L 6) (S 5 0) (S 15 1) (L 17) (A 16) (A 19) (A 18) (A 20) (A 21) 1 N (L 77) x (Int32.ofNat k) = some (Int32.ofNat 1, L 77) := by
          simp (disch := omega) only [↓xf_la_told_s, xf_xt_told_s, xf_xt_told_19_s, xf_xt_told_20_s, ↓xf_xt_rowOrRefuse_19_s, ↓xf_xt_rowOrRefuse_s, ↓xf_xt_refuseUnless_s, e1, wq_or, wq_ltT, wq_ltF, wq_inT, wq_clamp, wq_eqF, wq_eqm, wq_meq, wq_add, wq_mul, wq_subT, eq_self, Bool.false_eq_true, ↓reduceIte, Option.bind_some, Sum.elim_inl, Sum.elim_inr, ↓wq_f0b, ↓wq_f1b, ↓wq_f2b, ↓wq_r0b, ↓wq_r1b, ↓Option.bind_some]
        have h2 : xf_rf_told (A 73) (A 61) (A 62) (A 60) (A 68) (A 66) (A 69) (A 67) (A 70) (A 71) (A 72) N (A 74) (S 57 0) (L 76) x (Int32.ofNat k) = some (Int32.ofNat 0, A 74, Int32.ofNat 1, L 76) := by
          simp (disch := omega) only [xf_rf_told_s, xf_rf_told_27_s, xf_rf_told_32_s, e2, wq_or, wq_f1, wq_ltT, wq_ltF, wq_inT, wq_clamp, wq_eqF, wq_eqm, wq_meq, wq_add, wq_mul, wq_subT, eq_self, Bool.false_eq_true, ↓reduceIte, Option.bind_some, Sum.elim_inl, Sum.elim_inr, ↓wq_f0b, ↓wq_f1b, ↓wq_f2b, ↓wq_r0b, ↓wq_r1b, ↓Option.bind_some]
        exact ⟨_, _, h1, h2, ⟨rfl, fun h => absurd h wq_ne1⟩, wi_out7476 hI⟩
      · obtain ⟨D', ways', d1, d2, _⟩ := wq_findDepths hm.1 hn3 (N := N) (by omega) (A 74) (L 76)
        have d3 := wi_D_uniq hn hm.2.2.1.2.2 d2 p hp
        obtain ⟨k1, k2⟩ := wi_kd hm hK (N := N) (by omega) hp
        obtain ⟨v, v1, v2⟩ := wi_refs hm (N := N) (by omega) hp
        obtain ⟨_, _, _, r4, _⟩ := hm.2.1.2.1 p hp
        obtain ⟨r5, _, _⟩ := hm.1.2.2.2.2.1 p hp
        have key : ∃ g, xf_la_told (A 45) (L 6) (S 5 0) (S 15 1) (L 17) (A 16) (A 19) (A 18) (A 20) (A 21) 1 N (L 77) x (Int32.ofNat k) = some (Int32.ofNat 0, vp_updL (L 77) 0 g.toInt64) ∧ xf_rf_told (A 73) (A 61) (A 62) (A 60) (A 68) (A 66) (A 69) (A 67) (A 70) (A 71) (A 72) N (A 74) (S 57 0) (L 76) x (Int32.ofNat k) = some (g, D', Int32.ofNat 0, ways') := by
          by_cases g0 : k = 0
          · subst g0
            refine ⟨wq_or (fun i => i) (wq_kd (L 6) (A 69) T (m p) p), ?_, ?_⟩
            · simp (disch := omega) only [↓xf_la_told_s, xf_xt_told_s, xf_xt_told_19_s, xf_xt_told_20_s, xf_xt_told_84_s, ↓xf_xt_rowOrRefuse_19_s, ↓xf_xt_rowOrRefuse_s, ↓xf_xt_refuseUnless_s, e1, wq_or, wq_ltT, wq_ltF, wq_inT, wq_clamp, wq_eqF, wq_eqm, wq_meq, wq_add, wq_mul, wq_subT, eq_self, Bool.false_eq_true, ↓reduceIte, Option.bind_some, Sum.elim_inl, Sum.elim_inr, ↓wq_f0b, ↓wq_f1b, ↓wq_f2b, ↓wq_r0b, ↓wq_r1b, ↓Option.bind_some, k1]
            · simp (disch := omega) only [xf_rf_told_s, xf_rf_told_27_s, xf_rf_told_32_s, xf_rf_told_90_s, e2, wq_or, wq_f0, wq_ltT, wq_ltF, wq_inT, wq_clamp, wq_eqF, wq_eqm, wq_meq, wq_add, wq_mul, wq_subT, eq_self, Bool.false_eq_true, ↓reduceIte, Option.bind_some, Sum.elim_inl, Sum.elim_inr, ↓wq_f0b, ↓wq_f1b, ↓wq_f2b, ↓wq_r0b, ↓wq_r1b, ↓Option.bind_some, d1, k2]
          · by_cases g1 : k = 1
            · subst g1
              refine ⟨Int32.ofNat (z p), ?_, ?_⟩
              · simp (disch := omega) only [↓xf_la_told_s, xf_xt_told_s, xf_xt_told_19_s, xf_xt_told_20_s, xf_xt_told_84_s, ↓xf_xt_rowOrRefuse_19_s, ↓xf_xt_rowOrRefuse_s, ↓xf_xt_refuseUnless_s, e1, wq_or, wq_ltT, wq_ltF, wq_inT, wq_clamp, wq_eqF, wq_eqm, wq_meq, wq_add, wq_mul, wq_subT, eq_self, Bool.false_eq_true, ↓reduceIte, Option.bind_some, Sum.elim_inl, Sum.elim_inr, ↓wq_f0b, ↓wq_f1b, ↓wq_f2b, ↓wq_r0b, ↓wq_r1b, ↓Option.bind_some, r4]
              · simp (disch := omega) only [xf_rf_told_s, xf_rf_told_27_s, xf_rf_told_32_s, xf_rf_told_90_s, e2, wq_or, wq_f0, wq_ltT, wq_ltF, wq_inT, wq_clamp, wq_eqF, wq_eqm, wq_meq, wq_add, wq_mul, wq_subT, eq_self, Bool.false_eq_true, ↓reduceIte, Option.bind_some, Sum.elim_inl, Sum.elim_inr, ↓wq_f0b, ↓wq_f1b, ↓wq_f2b, ↓wq_r0b, ↓wq_r1b, ↓Option.bind_some, d1, r5]
            · by_cases g2 : k = 2
              · subst g2
                refine ⟨v, ?_, ?_⟩
                · simp (disch := omega) only [↓xf_la_told_s, xf_xt_told_s, xf_xt_told_19_s, xf_xt_told_20_s, xf_xt_told_84_s, ↓xf_xt_rowOrRefuse_19_s, ↓xf_xt_rowOrRefuse_s, ↓xf_xt_refuseUnless_s, e1, wq_or, wq_ltT, wq_ltF, wq_inT, wq_clamp, wq_eqF, wq_eqm, wq_meq, wq_add, wq_mul, wq_subT, eq_self, Bool.false_eq_true, ↓reduceIte, Option.bind_some, Sum.elim_inl, Sum.elim_inr, ↓wq_f0b, ↓wq_f1b, ↓wq_f2b, ↓wq_r0b, ↓wq_r1b, ↓Option.bind_some, v1]
                · simp (disch := omega) only [xf_rf_told_s, xf_rf_told_27_s, xf_rf_told_32_s, xf_rf_told_90_s, e2, wq_or, wq_f0, wq_ltT, wq_ltF, wq_inT, wq_clamp, wq_eqF, wq_eqm, wq_meq, wq_add, wq_mul, wq_subT, eq_self, Bool.false_eq_true, ↓reduceIte, Option.bind_some, Sum.elim_inl, Sum.elim_inr, ↓wq_f0b, ↓wq_f1b, ↓wq_f2b, ↓wq_r0b, ↓wq_r1b, ↓Option.bind_some, d1, v2]
              · refine ⟨D' p, ?_, ?_⟩
                · simp (disch := omega) only [↓xf_la_told_s, xf_xt_told_s, xf_xt_told_19_s, xf_xt_told_20_s, xf_xt_told_84_s, ↓xf_xt_rowOrRefuse_19_s, ↓xf_xt_rowOrRefuse_s, ↓xf_xt_refuseUnless_s, e1, wq_or, wq_ltT, wq_ltF, wq_inT, wq_clamp, wq_eqF, wq_eqm, wq_meq, wq_add, wq_mul, wq_subT, eq_self, Bool.false_eq_true, ↓reduceIte, Option.bind_some, Sum.elim_inl, Sum.elim_inr, ↓wq_f0b, ↓wq_f1b, ↓wq_f2b, ↓wq_r0b, ↓wq_r1b, ↓Option.bind_some, ← d3]
                · simp (disch := omega) only [xf_rf_told_s, xf_rf_told_27_s, xf_rf_told_32_s, xf_rf_told_90_s, e2, wq_or, wq_f0, wq_ltT, wq_ltF, wq_inT, wq_clamp, wq_eqF, wq_eqm, wq_meq, wq_add, wq_mul, wq_subT, eq_self, Bool.false_eq_true, ↓reduceIte, Option.bind_some, Sum.elim_inl, Sum.elim_inr, ↓wq_f0b, ↓wq_f1b, ↓wq_f2b, ↓wq_r0b, ↓wq_r1b, ↓Option.bind_some, d1]
        obtain ⟨g, h1, h2⟩ := key
        exact ⟨_, _, h1, h2, ⟨rfl, fun _ => wp_cmp _⟩, wi_out7476 hI⟩
theorem wi_way_one {n : Nat} {r : Nat → Nat → Prop} {p q : Nat} (hp : p < n) (hq : q < n) (h : r p q) : wi_way n r p q := by
  refine ⟨1, fun i => if i = 0 then p else q, Nat.le_refl 1, rfl, rfl, fun i hi => ?_, fun i hi => ?_⟩
  · show (if i = 0 then p else q) < n
    split
    · exact hp
    · exact hq
  · have e : i = 0 := by omega
    subst e
    exact h
theorem wi_way_step {n : Nat} {r : Nat → Nat → Prop} {p q s : Nat} (hs : s < n) (h : wi_way n r p q) (hr : r q s) : wi_way n r p s := by
  obtain ⟨l, f, h1, h2, h3, h4, h5⟩ := h
  refine ⟨l + 1, fun i => if i ≤ l then f i else s, by omega, ?_, ?_, fun i hi => ?_, fun i hi => ?_⟩
  · show (if 0 ≤ l then f 0 else s) = p
    rw [if_pos (by omega)]
    exact h2
  · show (if l + 1 ≤ l then f (l + 1) else s) = s
    rw [if_neg (by omega)]
  · show (if i ≤ l then f i else s) < n
    by_cases e : i ≤ l
    · rw [if_pos e]
      exact h4 i e
    · rw [if_neg e]
      exact hs
  · show r (if i ≤ l then f i else s) (if i + 1 ≤ l then f (i + 1) else s)
    rw [if_pos (by omega)]
    by_cases e : i + 1 ≤ l
    · rw [if_pos e]
      exact h5 i (by omega)
    · rw [if_neg e]
      have e2 : i = l := by omega
      rw [e2, h3]
      exact hr
/-- what holds of those next to p, and goes on, holds of all that p has a way to -/
theorem wi_way_ind {n : Nat} {r : Nat → Nat → Prop} {P : Nat → Prop} {p q : Nat} (h : wi_way n r p q) (h1 : ∀ s, s < n → r p s → P s) (h2 : ∀ x y, x < n → y < n → P x → r x y → P y) : q < n ∧ P q := by
  obtain ⟨l, f, g1, g2, g3, g4, g5⟩ := h
  have key : ∀ i, i < l → P (f (i + 1)) := by
    intro i
    induction i with
    | zero =>
      intro hi
      have := g5 0 hi
      rw [g2] at this
      exact h1 _ (g4 1 (by omega)) this
    | succ i ih =>
      intro hi
      exact h2 _ _ (g4 (i + 1) (by omega)) (g4 (i + 1 + 1) (by omega)) (ih (by omega)) (g5 (i + 1) hi)
  refine ⟨by rw [← g3]; exact g4 l (Nat.le_refl l), ?_⟩
  have := key (l - 1) (by omega)
  rw [show l - 1 + 1 = l by omega, g3] at this
  exact this
theorem wi_D_way {n : Nat} {r : Nat → Nat → Prop} {D : Nat → Int32} (hn : n ≤ 40) (h : wi_D n r D) {p : Nat} (hp : p < n) (hd : ¬ D p = -1) : ¬ wi_way n r p p := by
  intro hw
  rcases h p hp with ⟨g1, _⟩ | ⟨d, g0, g1, g2, _⟩
  · exact hd g1
  · have := (wi_way_ind (P := fun q => ∃ e, e < d ∧ D q = Int32.ofNat e) hw (fun s hs hr => g2 s hs hr) (fun x y hx hy ⟨e, e1, e2⟩ hr => by
      rcases h x hx with ⟨f1, _⟩ | ⟨d', f0, f1, f2, _⟩
      · rw [e2] at f1
        exact ((wq_eqm (by omega)).mp f1).elim
      · rw [e2] at f1
        have := wq_inj (by omega) (by omega) f1
        obtain ⟨e', e3, e4⟩ := f2 y hy hr
        exact ⟨e', by omega, e4⟩)).2
    obtain ⟨e, e1, e2⟩ := this
    rw [g1] at e2
    have := wq_inj (by omega) (by omega) e2
    omega
/-- how many bits are not set -/
def wq_cb (x : Int64) : Nat → Nat
  | 0 => 0
  | j + 1 => wq_cb x j + (if wq_bit x j = true then 0 else 1)
theorem wq_cb_le {x y : Int64} (h : ∀ j, j < 64 → wq_bit x j = true → wq_bit y j = true) : ∀ k, k ≤ 64 → wq_cb y k ≤ wq_cb x k ∧ (∀ j, j < k → ¬ wq_bit x j = true → wq_bit y j = true → wq_cb y k < wq_cb x k) := by
  intro k
  induction k with
  | zero => intro _; exact ⟨Nat.le_refl 0, fun j hj => absurd hj (by omega)⟩
  | succ k ih =>
    intro hk
    obtain ⟨i1, i2⟩ := ih (by omega)
    have hkk := h k (by omega)
    rw [wq_cb, wq_cb]
    by_cases hx : wq_bit x k = true
    · rw [if_pos hx, if_pos (hkk hx)]
      refine ⟨by omega, fun j hj h1 h2 => ?_⟩
      by_cases e : j = k
      · rw [e] at h1
        exact absurd hx h1
      · have := i2 j (by omega) h1 h2
        omega
    · rw [if_neg hx]
      by_cases hy : wq_bit y k = true
      · rw [if_pos hy]
        exact ⟨by omega, fun j hj h1 h2 => by omega⟩
      · rw [if_neg hy]
        refine ⟨by omega, fun j hj h1 h2 => ?_⟩
        by_cases e : j = k
        · rw [e] at h2
          exact absurd h2 hy
        · have := i2 j (by omega) h1 h2
          omega
theorem wq_cb64 (x : Int64) : ∀ k, wq_cb x k ≤ k := by
  intro k
  induction k with
  | zero => exact Nat.le_refl 0
  | succ k ih =>
    rw [wq_cb]
    split <;> omega
theorem wq_bit_ext {x y : Int64} (h : ∀ j, j < 64 → wq_bit x j = wq_bit y j) : x = y := by
  apply Int64.toBitVec_inj.mp
  apply BitVec.eq_of_getLsbD_eq
  intro j hj
  exact h j hj
section
variable {n : Nat} {r : Nat → Nat → Prop} {lines : Nat → Int32} {ways : Nat → Int64}
theorem wq_ring23 {N p : Nat} (hn : n ≤ 40) (hl : lines 0 = Int32.ofNat n) (hw : ∀ p, p < n → ∀ j, j < 64 → (wq_bit (ways p) j = true ↔ (j < n ∧ r p j))) (k10 : Int32 → Int64 → Int64 → Option Int32) :
    ∀ k l M (x b : Int64), l + k = n → k < M → (∀ j, j < 64 → wq_bit x j = true → j < n ∧ wi_way n r p j) →
    ∃ x', (∀ j, j < 64 → wq_bit x' j = true → j < n ∧ wi_way n r p j) ∧ (∀ j, j < 64 → wq_bit x j = true → wq_bit x' j = true) ∧ (x' = x → ∀ q, l ≤ q → q < n → wq_bit x q = true → ∀ j, j < n → r q j → wq_bit x j = true) ∧ xf_rf_isOnRing_23 lines ways k10 N M (Int32.ofNat p) x b (Int32.ofNat l) = k10 (Int32.ofNat p) x' b := by
  intro k
  induction k with
  | zero =>
    intro l M x b hk hM hs
    obtain ⟨M', rfl⟩ : ∃ M', M = M' + 1 := ⟨M - 1, by omega⟩
    refine ⟨x, hs, fun j _ h => h, fun _ q h1 h2 => absurd h2 (by omega), ?_⟩
    simp (disch := omega) only [xf_rf_isOnRing_23_s, wq_ltT, wq_ltF, wq_inT, wq_clamp, wq_eqF, wq_eqm, wq_meq, wq_add, wq_mul, wq_subT, eq_self, Bool.false_eq_true, ↓reduceIte, Option.bind_some, Sum.elim_inl, Sum.elim_inr, ↓wq_f0b, ↓wq_f1b, ↓wq_f2b, ↓wq_r0b, ↓wq_r1b, ↓Option.bind_some, hl]
  | succ k ih =>
    intro l M x b hk hM hs
    obtain ⟨M', rfl⟩ : ∃ M', M = M' + 1 := ⟨M - 1, by omega⟩
    have hwl := hw l (by omega)
    by_cases hb : wq_bit x l = true
    · have hs1 : ∀ j, j < 64 → wq_bit (x ||| ways l) j = true → j < n ∧ wi_way n r p j := by
        intro j hj hbj
        rw [wq_bit_or, Bool.or_eq_true] at hbj
        rcases hbj with h | h
        · exact hs j hj h
        · obtain ⟨h1, h2⟩ := (hwl j hj).mp h
          exact ⟨h1, wi_way_step h1 (hs l (by omega) hb).2 h2⟩
      obtain ⟨x', i1, i2, i3, i4⟩ := ih (l + 1) M' (x ||| ways l) b (by omega) (by omega) hs1
      refine ⟨x', i1, fun j hj h => i2 j hj (by rw [wq_bit_or, h]; rfl), fun e q h1 h2 h3 j hj hr => ?_, ?_⟩
      · have e2 : x ||| ways l = x := by
          apply wq_bit_ext
          intro j hj
          apply Bool.eq_iff_iff.mpr
          constructor
          · intro h
            rw [← e]
            exact i2 j hj h
          · intro h
            rw [wq_bit_or, h]
            rfl
        by_cases eq : q = l
        · rw [← e2, wq_bit_or, (hwl j (by omega)).mpr ⟨hj, by rw [← eq]; exact hr⟩, Bool.or_true]
        · have := i3 (by rw [e, e2]) q (by omega) h2 (by rw [e2]; exact h3) j hj hr
          rw [e2] at this
          exact this
      · rw [← i4]
        simp (disch := omega) only [xf_rf_isOnRing_23_s, xf_rf_isOnRing_55_s, wq_ltT, wq_ltF, wq_inT, wq_clamp, wq_eqF, wq_eqm, wq_meq, wq_add, wq_mul, wq_subT, eq_self, Bool.false_eq_true, ↓reduceIte, Option.bind_some, Sum.elim_inl, Sum.elim_inr, ↓wq_f0b, ↓wq_f1b, ↓wq_f2b, ↓wq_r0b, ↓wq_r1b, ↓Option.bind_some, hl, wq_cmp0, wq_ts1, hb]
    · obtain ⟨x', i1, i2, i3, i4⟩ := ih (l + 1) M' x b (by omega) (by omega) hs
      refine ⟨x', i1, i2, fun e q h1 h2 h3 j hj hr => ?_, ?_⟩
      · by_cases eq : q = l
        · rw [eq] at h3
          exact absurd h3 hb
        · exact i3 e q (by omega) h2 h3 j hj hr
      · rw [← i4]
        simp (disch := omega) only [xf_rf_isOnRing_23_s, xf_rf_isOnRing_55_s, wq_ltT, wq_ltF, wq_inT, wq_clamp, wq_eqF, wq_eqm, wq_meq, wq_add, wq_mul, wq_subT, eq_self, Bool.false_eq_true, ↓reduceIte, Option.bind_some, Sum.elim_inl, Sum.elim_inr, ↓wq_f0b, ↓wq_f1b, ↓wq_f2b, ↓wq_r0b, ↓wq_r1b, ↓Option.bind_some, hl, wq_cmp0, wq_ts1, hb]
theorem wq_ring10 {N p : Nat} (hN : 60 ≤ N) (hn : n ≤ 40) (hl : lines 0 = Int32.ofNat n) (hp : p < n) (hw : ∀ p, p < n → ∀ j, j < 64 → (wq_bit (ways p) j = true ↔ (j < n ∧ r p j))) :
    ∀ k M (x b : Int64), wq_cb x 64 ≤ k → k + 2 ≤ M → (∀ j, j < 64 → wq_bit x j = true → j < n ∧ wi_way n r p j) → (∀ j, j < n → r p j → wq_bit x j = true) → (x = b → ∀ q, q < n → wq_bit x q = true → ∀ j, j < n → r q j → wq_bit x j = true) →
    (wi_way n r p p ∧ xf_rf_isOnRing_10 lines ways N M (Int32.ofNat p) x b = some (Int32.ofNat 1)) ∨ (¬ wi_way n r p p ∧ xf_rf_isOnRing_10 lines ways N M (Int32.ofNat p) x b = some (Int32.ofNat 0)) := by
  have ef0 : (fits .boolean (.int (Int32.ofNat 0)) = true) = True := by decide
  have ef1 : (fits .boolean (.int (Int32.ofNat 1)) = true) = True := by decide
  have fin : ∀ M (x : Int64), (∀ j, j < 64 → wq_bit x j = true → j < n ∧ wi_way n r p j) → (∀ j, j < n → r p j → wq_bit x j = true) → (∀ q, q < n → wq_bit x q = true → ∀ j, j < n → r q j → wq_bit x j = true) → (wi_way n r p p ∧ xf_rf_isOnRing_10 lines ways N (M + 1) (Int32.ofNat p) x x = some (Int32.ofNat 1)) ∨ (¬ wi_way n r p p ∧ xf_rf_isOnRing_10 lines ways N (M + 1) (Int32.ofNat p) x x = some (Int32.ofNat 0)) := by
    intro M x h1 h2 h3
    by_cases hb : wq_bit x p = true
    · refine Or.inl ⟨(h1 p (by omega) hb).2, ?_⟩
      simp (disch := omega) only [xf_rf_isOnRing_10_s, xf_rf_isOnRing_79_s, wq_ltT, wq_ltF, wq_inT, wq_clamp, wq_eqF, wq_eqm, wq_meq, wq_add, wq_mul, wq_subT, eq_self, Bool.false_eq_true, ↓reduceIte, Option.bind_some, Sum.elim_inl, Sum.elim_inr, ↓wq_f0b, ↓wq_f1b, ↓wq_f2b, ↓wq_r0b, ↓wq_r1b, ↓Option.bind_some, wq_cmp0, wq_ts1, hb, ef1]
    · refine Or.inr ⟨fun hw => hb (wi_way_ind (P := fun q => wq_bit x q = true) hw (fun s hs hr => h2 s hs hr) (fun u v hu hv hb hr => h3 u hu hb v hv hr)).2, ?_⟩
      simp (disch := omega) only [xf_rf_isOnRing_10_s, xf_rf_isOnRing_79_s, wq_ltT, wq_ltF, wq_inT, wq_clamp, wq_eqF, wq_eqm, wq_meq, wq_add, wq_mul, wq_subT, eq_self, Bool.false_eq_true, ↓reduceIte, Option.bind_some, Sum.elim_inl, Sum.elim_inr, ↓wq_f0b, ↓wq_f1b, ↓wq_f2b, ↓wq_r0b, ↓wq_r1b, ↓Option.bind_some, wq_cmp0, wq_ts1, hb, ef0]
  intro k
  induction k with
  | zero =>
    intro M x b hc hM h1 h2 h3
    obtain ⟨M', rfl⟩ : ∃ M', M = M' + 1 + 1 := ⟨M - 2, by omega⟩
    by_cases e : x = b
    · subst e
      exact fin _ x h1 h2 (h3 rfl)
    · obtain ⟨x', i1, i2, i3, i4⟩ := wq_ring23 (N := N) (p := p) hn hl hw (xf_rf_isOnRing_10 lines ways N (M' + 1)) n 0 N x x (by omega) (by omega) h1
      have e2 : x' = x := by
        apply wq_bit_ext
        intro j hj
        apply Bool.eq_iff_iff.mpr
        refine ⟨fun h => ?_, fun h => i2 j hj h⟩
        apply Classical.byContradiction
        intro hx
        have := (wq_cb_le i2 64 (Nat.le_refl 64)).2 j hj hx h
        omega
      have e3 : xf_rf_isOnRing_10 lines ways N (M' + 1 + 1) (Int32.ofNat p) x b = xf_rf_isOnRing_10 lines ways N (M' + 1) (Int32.ofNat p) x x := by
        rw [xf_rf_isOnRing_10_s, if_neg (by rw [wq_cmp0]; exact e), i4, e2]
      rw [e3]
      exact fin _ x h1 h2 (fun q hq => i3 e2 q (by omega) hq)
  | succ k ih =>
    intro M x b hc hM h1 h2 h3
    obtain ⟨M', rfl⟩ : ∃ M', M = M' + 1 + 1 := ⟨M - 2, by omega⟩
    by_cases e : x = b
    · subst e
      exact fin _ x h1 h2 (h3 rfl)
    · obtain ⟨x', i1, i2, i3, i4⟩ := wq_ring23 (N := N) (p := p) hn hl hw (xf_rf_isOnRing_10 lines ways N (M' + 1)) n 0 N x x (by omega) (by omega) h1
      have e3 : xf_rf_isOnRing_10 lines ways N (M' + 1 + 1) (Int32.ofNat p) x b = xf_rf_isOnRing_10 lines ways N (M' + 1) (Int32.ofNat p) x' x := by
        rw [xf_rf_isOnRing_10_s, if_neg (by rw [wq_cmp0]; exact e), i4]
      rw [e3]
      by_cases e2 : x' = x
      · rw [e2]
        exact fin _ x h1 h2 (fun q hq => i3 e2 q (by omega) hq)
      · have hlt : wq_cb x' 64 < wq_cb x 64 := by
          apply Classical.byContradiction
          intro hge
          apply e2
          apply wq_bit_ext
          intro j hj
          apply Bool.eq_iff_iff.mpr
          refine ⟨fun h => ?_, fun h => i2 j hj h⟩
          apply Classical.byContradiction
          intro hx
          exact hge ((wq_cb_le i2 64 (Nat.le_refl 64)).2 j hj hx h)
        exact ih (M' + 1) x' x (by omega) (by omega) i1 (fun j hj hr => i2 j (by omega) (h2 j hj hr)) (fun e => absurd e e2)
theorem wq_isOnRing {N p : Nat} (hN : 80 ≤ N) (hn : n ≤ 40) (hl : lines 0 = Int32.ofNat n) (hp : p < n) (hw : ∀ p, p < n → ∀ j, j < 64 → (wq_bit (ways p) j = true ↔ (j < n ∧ r p j))) :
    (wi_way n r p p ∧ xf_rf_isOnRing lines ways N (Int32.ofNat p) = some (Int32.ofNat 1)) ∨ (¬ wi_way n r p p ∧ xf_rf_isOnRing lines ways N (Int32.ofNat p) = some (Int32.ofNat 0)) := by
  have e : xf_rf_isOnRing lines ways N (Int32.ofNat p) = xf_rf_isOnRing_10 lines ways N N (Int32.ofNat p) (ways p) 0 := by
    simp (disch := omega) only [xf_rf_isOnRing_s, wq_ltT, wq_ltF, wq_inT, wq_clamp, wq_eqF, wq_eqm, wq_meq, wq_add, wq_mul, wq_subT, eq_self, Bool.false_eq_true, ↓reduceIte, Option.bind_some, Sum.elim_inl, Sum.elim_inr, ↓wq_f0b, ↓wq_f1b, ↓wq_f2b, ↓wq_r0b, ↓wq_r1b, ↓Option.bind_some]
  rw [e]
  refine wq_ring10 (by omega) hn hl hp hw 64 N (ways p) 0 (wq_cb64 _ 64) (by omega) (fun j hj hb => ?_) (fun j hj hr => (hw p hp j (by omega)).mpr ⟨hj, hr⟩) (fun e q hq hb => ?_)
  · obtain ⟨h1, h2⟩ := (hw p hp j hj).mp hb
    exact ⟨h1, wi_way_one hp h1 h2⟩
  · rw [e, wq_bit0] at hb
    exact absurd hb (by decide)
end
theorem wi_ring {A : wp_A} {L : wp_L} {S : wp_A} {n R u : Nat} {o a z m : Nat → Nat} {t c s : Nat → Nat → Nat} (h : wi_Model A L S n R u o a z m t c s) {N : Nat} (hN : 80 ≤ N) (th : Int32) (D : Nat → Int32) (ways : Nat → Int64) (hD : wi_D n (wi_ref a z t c (A 72) (A 73)) D) (hw : ∀ p, p < n → ∀ j, j < 64 → (wq_bit (ways p) j = true ↔ (j < n ∧ wi_ref a z t c (A 72) (A 73) p j))) :
    ∀ k p left M, p + k = n → k < M → left < 2147483648 → ∃ v, xf_xt_ring_16 (L 44) (S 15 1) (A 16) (A 19) N M (Int32.ofNat left) (Int32.ofNat p) = some (.inl v) ∧ xf_rf_ring_32 (A 73) (A 66) (A 67) (A 70) (A 71) (A 72) N M D th ways (Int32.ofNat left) (Int32.ofNat p) = some (v, D, th, ways) := by
  obtain ⟨hn, hn2, hn3⟩ := wi_n h
  have ef0 : (fits .boolean (.int (Int32.ofNat 0)) = true) = True := by decide
  have ef1 : (fits .boolean (.int (Int32.ofNat 1)) = true) = True := by decide
  intro k
  induction k with
  | zero =>
    intro p left M hp hM hle
    obtain ⟨M', rfl⟩ : ∃ M', M = M' + 1 := ⟨M - 1, by omega⟩
    refine ⟨-1, ?_, ?_⟩
    · simp (disch := omega) only [xf_xt_ring_16_s, wq_ltT, wq_ltF, wq_inT, wq_clamp, wq_eqF, wq_eqm, wq_meq, wq_add, wq_mul, wq_subT, eq_self, Bool.false_eq_true, ↓reduceIte, Option.bind_some, Sum.elim_inl, Sum.elim_inr, ↓wq_f0b, ↓wq_f1b, ↓wq_f2b, ↓wq_r0b, ↓wq_r1b, ↓Option.bind_some, hn2]
    · simp (disch := omega) only [xf_rf_ring_32_s, wq_ltT, wq_ltF, wq_inT, wq_clamp, wq_eqF, wq_eqm, wq_meq, wq_add, wq_mul, wq_subT, eq_self, Bool.false_eq_true, ↓reduceIte, Option.bind_some, Sum.elim_inl, Sum.elim_inr, ↓wq_f0b, ↓wq_f1b, ↓wq_f2b, ↓wq_r0b, ↓wq_r1b, ↓Option.bind_some, hn3]
  | succ k ih =>
    intro p left M hp hM hle
    obtain ⟨M', rfl⟩ : ∃ M', M = M' + 1 := ⟨M - 1, by omega⟩
    have hpn : p < n := by omega
    obtain ⟨r1, r2, r3⟩ := wi_row h p hpn
    have r4 := (wi_a h p hpn).1
    have e1 := wq_rowAt hn (fun p hp => (wi_row h p hp).2.1) hpn
    have g1 := h.2.2.1.2.1 p hpn (o p) (by omega)
    have g2 := wq_isOnRing (N := N) hN hn hn3 hpn hw
    by_cases hway : wi_way n (wi_ref a z t c (A 72) (A 73)) p p
    · have g3 : wq_bit (L 44 (o p)) (o p) = true := g1.mpr ⟨p, hpn, rfl, hway⟩
      have g4 : xf_rf_isOnRing (A 66) ways N (Int32.ofNat p) = some (Int32.ofNat 1) := by
        rcases g2 with ⟨_, g⟩ | ⟨g, _⟩
        · exact g
        · exact absurd hway g
      have g5 : D p = -1 := Classical.byContradiction (fun hd => wi_D_way hn hD hpn hd hway)
      have et : (true = false) = False := by decide
      by_cases hl : left = 0
      · subst hl
        refine ⟨Int32.ofNat (a p), ?_, ?_⟩
        · simp (disch := omega) only [xf_xt_ring_16_s, xf_xt_ring_67_s, ↓xf_gr_comesBack_20_s, ↓xf_gr_comesBack_s, wq_ltT, wq_ltF, wq_inT, wq_clamp, wq_eqF, wq_eqm, wq_meq, wq_add, wq_mul, wq_subT, eq_self, Bool.false_eq_true, ↓reduceIte, Option.bind_some, Sum.elim_inl, Sum.elim_inr, ↓wq_f0b, ↓wq_f1b, ↓wq_f2b, ↓wq_r0b, ↓wq_r1b, ↓Option.bind_some, hn2, e1, wq_cmp0, wq_tu, g3, et, ef1, r3]
        · simp (disch := omega) only [xf_rf_ring_32_s, xf_rf_ring_77_s, wq_ltT, wq_ltF, wq_inT, wq_clamp, wq_eqF, wq_eqm, wq_meq, wq_add, wq_mul, wq_subT, eq_self, Bool.false_eq_true, ↓reduceIte, Option.bind_some, Sum.elim_inl, Sum.elim_inr, ↓wq_f0b, ↓wq_f1b, ↓wq_f2b, ↓wq_r0b, ↓wq_r1b, ↓Option.bind_some, hn3, g5, g4, r4]
      · obtain ⟨v, v1, v2⟩ := ih (p + 1) (left - 1) M' (by omega) (by omega) (by omega)
        refine ⟨v, ?_, ?_⟩
        · rw [← v1, hn2]
          simp (disch := omega) only [xf_xt_ring_16_s, xf_xt_ring_67_s, ↓xf_gr_comesBack_20_s, ↓xf_gr_comesBack_s, wq_ltT, wq_ltF, wq_inT, wq_clamp, wq_eqF, wq_eqm, wq_meq, wq_add, wq_mul, wq_subT, eq_self, Bool.false_eq_true, ↓reduceIte, Option.bind_some, Sum.elim_inl, Sum.elim_inr, ↓wq_f0b, ↓wq_f1b, ↓wq_f2b, ↓wq_r0b, ↓wq_r1b, ↓Option.bind_some, e1, wq_cmp0, wq_tu, g3, et, ef1, wq_m1]
        · rw [← v2]
          simp (disch := omega) only [xf_rf_ring_32_s, xf_rf_ring_77_s, wq_ltT, wq_ltF, wq_inT, wq_clamp, wq_eqF, wq_eqm, wq_meq, wq_add, wq_mul, wq_subT, eq_self, Bool.false_eq_true, ↓reduceIte, Option.bind_some, Sum.elim_inl, Sum.elim_inr, ↓wq_f0b, ↓wq_f1b, ↓wq_f2b, ↓wq_r0b, ↓wq_r1b, ↓Option.bind_some, hn3, g5, g4, wq_m1]
    · have g3 : wq_bit (L 44 (o p)) (o p) = false := by
        apply Bool.eq_false_iff.mpr
        intro hb
        obtain ⟨q, q1, q2, q3⟩ := g1.mp hb
        have := h.2.1.2.2.1 p q hpn q1 q2
        subst this
        exact hway q3
      have g4 : xf_rf_isOnRing (A 66) ways N (Int32.ofNat p) = some (Int32.ofNat 0) := by
        rcases g2 with ⟨g, _⟩ | ⟨_, g⟩
        · exact absurd g hway
        · exact g
      obtain ⟨v, v1, v2⟩ := ih (p + 1) left M' (by omega) (by omega) hle
      refine ⟨v, ?_, ?_⟩
      · rw [← v1, hn2]
        simp (disch := omega) only [xf_xt_ring_16_s, xf_xt_ring_67_s, ↓xf_gr_comesBack_20_s, ↓xf_gr_comesBack_s, wq_ltT, wq_ltF, wq_inT, wq_clamp, wq_eqF, wq_eqm, wq_meq, wq_add, wq_mul, wq_subT, eq_self, Bool.false_eq_true, ↓reduceIte, Option.bind_some, Sum.elim_inl, Sum.elim_inr, ↓wq_f0b, ↓wq_f1b, ↓wq_f2b, ↓wq_r0b, ↓wq_r1b, ↓Option.bind_some, e1, wq_cmp0, wq_tu, g3, ef0]
      · rw [← v2]
        by_cases hd : D p = -1
        · simp (disch := omega) only [xf_rf_ring_32_s, xf_rf_ring_77_s, wq_ltT, wq_ltF, wq_inT, wq_clamp, wq_eqF, wq_eqm, wq_meq, wq_add, wq_mul, wq_subT, eq_self, Bool.false_eq_true, ↓reduceIte, Option.bind_some, Sum.elim_inl, Sum.elim_inr, ↓wq_f0b, ↓wq_f1b, ↓wq_f2b, ↓wq_r0b, ↓wq_r1b, ↓Option.bind_some, hn3, hd, g4]
        · simp (disch := omega) only [xf_rf_ring_32_s, xf_rf_ring_77_s, wq_ltT, wq_ltF, wq_inT, wq_clamp, wq_eqF, wq_eqm, wq_meq, wq_add, wq_mul, wq_subT, eq_self, Bool.false_eq_true, ↓reduceIte, Option.bind_some, Sum.elim_inl, Sum.elim_inr, ↓wq_f0b, ↓wq_f1b, ↓wq_f2b, ↓wq_r0b, ↓wq_r1b, ↓Option.bind_some, hn3, hd]
theorem wc_14 {sc : Nat × (Nat → Int32)} {N : Nat} (hN : 80 ≤ N) : wp_Ok sc wi_I (xf_law_14 sc N) := by
  apply wp_red_14
  intro A L S x hI
  obtain ⟨_, _, ⟨n, R, u, o, a, z, m, t, c, s, hm⟩, _⟩ := id hI
  obtain ⟨hn, hn2, hn3⟩ := wi_n hm
  rcases wq_sgn x with hx | ⟨k, hk, rfl⟩
  · have h1 : xf_la_ring (L 44) (S 15 1) (A 16) (A 19) 1 N (L 77) x = some (Int32.ofNat 1, L 77) := by
      simp (disch := omega) only [↓xf_la_ring_s, xf_xt_ring_s, xf_xt_ring_9_s, ↓xf_xt_refuseUnless_s, wq_ltT, wq_ltF, wq_inT, wq_clamp, wq_eqF, wq_eqm, wq_meq, wq_add, wq_mul, wq_subT, eq_self, Bool.false_eq_true, ↓reduceIte, Option.bind_some, Sum.elim_inl, Sum.elim_inr, ↓wq_f0b, ↓wq_f1b, ↓wq_f2b, ↓wq_r0b, ↓wq_r1b, ↓Option.bind_some, hx]
    have h2 : xf_rf_ring (A 73) (A 66) (A 67) (A 70) (A 71) (A 72) N (A 74) (S 57 0) (L 76) x = some (Int32.ofNat 0, A 74, Int32.ofNat 1, L 76) := by
      simp (disch := omega) only [xf_rf_ring_s, xf_rf_ring_15_s, wq_f1, wq_ltT, wq_ltF, wq_inT, wq_clamp, wq_eqF, wq_eqm, wq_meq, wq_add, wq_mul, wq_subT, eq_self, Bool.false_eq_true, ↓reduceIte, Option.bind_some, Sum.elim_inl, Sum.elim_inr, ↓wq_f0b, ↓wq_f1b, ↓wq_f2b, ↓wq_r0b, ↓wq_r1b, ↓Option.bind_some, hx]
    exact ⟨_, _, h1, h2, ⟨rfl, fun h => absurd h wq_ne1⟩, wi_out7476 hI⟩
  · obtain ⟨D', ways', d1, d2, d3⟩ := wq_findDepths hm.1 hn3 (N := N) (by omega) (A 74) (L 76)
    obtain ⟨v, v1, v2⟩ := wi_ring hm hN (Int32.ofNat 0) D' ways' d2 d3 n 0 k N (by omega) (by omega) hk
    have h1 : xf_la_ring (L 44) (S 15 1) (A 16) (A 19) 1 N (L 77) (Int32.ofNat k) = some (Int32.ofNat 0, vp_updL (L 77) 0 v.toInt64) := by
      simp (disch := omega) only [↓xf_la_ring_s, xf_xt_ring_s, xf_xt_ring_9_s, ↓xf_xt_refuseUnless_s, wq_ltT, wq_ltF, wq_inT, wq_clamp, wq_eqF, wq_eqm, wq_meq, wq_add, wq_mul, wq_subT, eq_self, Bool.false_eq_true, ↓reduceIte, Option.bind_some, Sum.elim_inl, Sum.elim_inr, ↓wq_f0b, ↓wq_f1b, ↓wq_f2b, ↓wq_r0b, ↓wq_r1b, ↓Option.bind_some, v1]
    have h2 : xf_rf_ring (A 73) (A 66) (A 67) (A 70) (A 71) (A 72) N (A 74) (S 57 0) (L 76) (Int32.ofNat k) = some (v, D', Int32.ofNat 0, ways') := by
      simp (disch := omega) only [xf_rf_ring_s, xf_rf_ring_15_s, wq_f0, wq_ltT, wq_ltF, wq_inT, wq_clamp, wq_eqF, wq_eqm, wq_meq, wq_add, wq_mul, wq_subT, eq_self, Bool.false_eq_true, ↓reduceIte, Option.bind_some, Sum.elim_inl, Sum.elim_inr, ↓wq_f0b, ↓wq_f1b, ↓wq_f2b, ↓wq_r0b, ↓wq_r1b, ↓Option.bind_some, d1, v2]
    exact ⟨_, _, h1, h2, ⟨rfl, fun _ => wp_cmp _⟩, wi_out7476 hI⟩
