/-! FROM. -/
theorem wi_out76 {A : wp_A} {L : wp_L} {S : wp_A} {f g : Nat → Int64} {v : Int32} (h : wi_I A L S) : wi_I A (xy_l (xy_l L 76 g) 77 f) (xy_s S 57 0 v) := h
theorem wi_out7476 {A : wp_A} {L : wp_L} {S : wp_A} {f g : Nat → Int64} {d : Nat → Int32} {v : Int32} (h : wi_I A L S) : wi_I (xy_a A 74 d) (xy_l (xy_l L 76 g) 77 f) (xy_s S 57 0 v) := h
theorem wi_from {A : wp_A} {L : wp_L} {S : wp_A} {n R u : Nat} {o a z m : Nat → Nat} {t c s : Nat → Nat → Nat} (h : wi_Model A L S n R u o a z m t c s) {N to : Nat} (hN : 41 ≤ N) (hto : to < n) (th : Int32) (ways : Nat → Int64) (hw : ∀ p, p < n → ∀ j, j < 64 → (wq_bit (ways p) j = true ↔ (j < n ∧ wi_ref a z t c (A 72) (A 73) p j))) :
    ∀ k p left M, p + k = n → k < M → left < 2147483648 → ∃ v, xf_xt_from_24 (L 43) (S 15 1) (A 16) (A 19) N M (Int32.ofNat (o to)) (Int32.ofNat left) (Int32.ofNat p) = some (.inl v) ∧ xf_rf_from_46 (A 73) (A 66) (A 67) (A 70) (A 71) (A 72) N M th ways (Int32.ofNat to) (Int32.ofNat left) (Int32.ofNat p) = some (v, th, ways) := by
  obtain ⟨hn, hn2, hn3⟩ := wi_n h
  have ef0 : (fits .boolean (.int (Int32.ofNat 0)) = true) = True := by decide
  have ef1 : (fits .boolean (.int (Int32.ofNat 1)) = true) = True := by decide
  intro k
  induction k with
  | zero =>
    intro p left M hp hM hle
    obtain ⟨M', rfl⟩ : ∃ M', M = M' + 1 := ⟨M - 1, by omega⟩
    refine ⟨-1, ?_, ?_⟩
    · simp (disch := omega) only [xf_xt_from_24_s, wq_ltT, wq_ltF, wq_inT, wq_clamp, wq_eqF, wq_eqm, wq_meq, wq_add, wq_mul, wq_subT, eq_self, Bool.false_eq_true, ↓reduceIte, Option.bind_some, Sum.elim_inl, Sum.elim_inr, ↓wq_f0b, ↓wq_f1b, ↓wq_f2b, ↓wq_r0b, ↓wq_r1b, ↓Option.bind_some, hn2]
    · simp (disch := omega) only [xf_rf_from_46_s, wq_ltT, wq_ltF, wq_inT, wq_clamp, wq_eqF, wq_eqm, wq_meq, wq_add, wq_mul, wq_subT, eq_self, Bool.false_eq_true, ↓reduceIte, Option.bind_some, Sum.elim_inl, Sum.elim_inr, ↓wq_f0b, ↓wq_f1b, ↓wq_f2b, ↓wq_r0b, ↓wq_r1b, ↓Option.bind_some, hn3]
  | succ k ih =>
    intro p left M hp hM hle
    obtain ⟨M', rfl⟩ : ∃ M', M = M' + 1 := ⟨M - 1, by omega⟩
    have hpn : p < n := by omega
    obtain ⟨r1, r2, r3⟩ := wi_row h p hpn
    obtain ⟨r5, _⟩ := wi_row h to hto
    have r4 := (wi_a h p hpn).1
    have e1 := wq_rowAt hn (fun p hp => (wi_row h p hp).2.1) hpn
    have g1 := h.2.2.1.1 p hpn (o to) (by omega)
    have g2 := hw p hpn to (by omega)
    have g3 : wq_bit (L 43 (o p)) (o to) = wq_bit (ways p) to := by
      apply Bool.eq_iff_iff.mpr
      rw [g1, g2]
      constructor
      · rintro ⟨q, q1, q2, q3⟩
        have := h.2.1.2.2.1 to q hto q1 q2
        subst this
        exact ⟨hto, q3⟩
      · rintro ⟨_, q3⟩
        exact ⟨to, hto, rfl, q3⟩
    cases hb : wq_bit (ways p) to with
    | false =>
      rw [hb] at g3
      obtain ⟨v, v1, v2⟩ := ih (p + 1) left M' (by omega) (by omega) hle
      refine ⟨v, ?_, ?_⟩
      · rw [← v1, hn2]
        simp (disch := omega) only [xf_xt_from_24_s, xf_xt_from_79_s, ↓xf_gr_refersTo_20_s, ↓xf_gr_refersTo_s, wq_ltT, wq_ltF, wq_inT, wq_clamp, wq_eqF, wq_eqm, wq_meq, wq_add, wq_mul, wq_subT, eq_self, Bool.false_eq_true, ↓reduceIte, Option.bind_some, Sum.elim_inl, Sum.elim_inr, ↓wq_f0b, ↓wq_f1b, ↓wq_f2b, ↓wq_r0b, ↓wq_r1b, ↓Option.bind_some, e1, wq_cmp0, wq_tu, g3, ef0]
      · rw [← v2]
        simp (disch := omega) only [xf_rf_from_46_s, xf_rf_from_92_s, wq_ltT, wq_ltF, wq_inT, wq_clamp, wq_eqF, wq_eqm, wq_meq, wq_add, wq_mul, wq_subT, eq_self, Bool.false_eq_true, ↓reduceIte, Option.bind_some, Sum.elim_inl, Sum.elim_inr, ↓wq_f0b, ↓wq_f1b, ↓wq_f2b, ↓wq_r0b, ↓wq_r1b, ↓Option.bind_some, hn3, wq_cmp0, wq_ts, hb]
    | true =>
      rw [hb] at g3
      have et : (true = false) = False := by decide
      by_cases hl : left = 0
      · subst hl
        refine ⟨Int32.ofNat (a p), ?_, ?_⟩
        · simp (disch := omega) only [xf_xt_from_24_s, xf_xt_from_79_s, ↓xf_gr_refersTo_20_s, ↓xf_gr_refersTo_s, wq_ltT, wq_ltF, wq_inT, wq_clamp, wq_eqF, wq_eqm, wq_meq, wq_add, wq_mul, wq_subT, eq_self, Bool.false_eq_true, ↓reduceIte, Option.bind_some, Sum.elim_inl, Sum.elim_inr, ↓wq_f0b, ↓wq_f1b, ↓wq_f2b, ↓wq_r0b, ↓wq_r1b, ↓Option.bind_some, hn2, e1, wq_cmp0, wq_tu, g3, et, ef1, r3]
        · simp (disch := omega) only [xf_rf_from_46_s, xf_rf_from_92_s, wq_ltT, wq_ltF, wq_inT, wq_clamp, wq_eqF, wq_eqm, wq_meq, wq_add, wq_mul, wq_subT, eq_self, Bool.false_eq_true, ↓reduceIte, Option.bind_some, Sum.elim_inl, Sum.elim_inr, ↓wq_f0b, ↓wq_f1b, ↓wq_f2b, ↓wq_r0b, ↓wq_r1b, ↓Option.bind_some, hn3, wq_cmp0, wq_ts, hb, et, r4]
      · obtain ⟨v, v1, v2⟩ := ih (p + 1) (left - 1) M' (by omega) (by omega) (by omega)
        refine ⟨v, ?_, ?_⟩
        · rw [← v1, hn2]
          simp (disch := omega) only [xf_xt_from_24_s, xf_xt_from_79_s, ↓xf_gr_refersTo_20_s, ↓xf_gr_refersTo_s, wq_ltT, wq_ltF, wq_inT, wq_clamp, wq_eqF, wq_eqm, wq_meq, wq_add, wq_mul, wq_subT, eq_self, Bool.false_eq_true, ↓reduceIte, Option.bind_some, Sum.elim_inl, Sum.elim_inr, ↓wq_f0b, ↓wq_f1b, ↓wq_f2b, ↓wq_r0b, ↓wq_r1b, ↓Option.bind_some, e1, wq_cmp0, wq_tu, g3, et, ef1, wq_m1]
        · rw [← v2]
          simp (disch := omega) only [xf_rf_from_46_s, xf_rf_from_92_s, wq_ltT, wq_ltF, wq_inT, wq_clamp, wq_eqF, wq_eqm, wq_meq, wq_add, wq_mul, wq_subT, eq_self, Bool.false_eq_true, ↓reduceIte, Option.bind_some, Sum.elim_inl, Sum.elim_inr, ↓wq_f0b, ↓wq_f1b, ↓wq_f2b, ↓wq_r0b, ↓wq_r1b, ↓Option.bind_some, hn3, wq_cmp0, wq_ts, hb, et, wq_m1]
theorem wc_13 {sc : Nat × (Nat → Int32)} {N : Nat} (hN : 60 ≤ N) : wp_Ok sc wi_I (xf_law_13 sc N) := by
  apply wp_red_13
  intro A L S x y hI
  obtain ⟨_, _, ⟨n, R, u, o, a, z, m, t, c, s, hm⟩, _⟩ := id hI
  have e1 := wi_rowOf hm (N := N) (by omega) x
  have e2 := wi_find hm (N := N) (by omega) x
  obtain ⟨hn, hn2, hn3⟩ := wi_n hm
  cases hf : wq_fx a n x with
  | none =>
    rw [hf] at e1 e2
    have h1 : xf_la_from (L 43) (S 15 1) (A 16) (A 19) 1 N (L 77) x y = some (Int32.ofNat 1, L 77) := by
      simp (disch := omega) only [↓xf_la_from_s, xf_xt_from_s, ↓xf_xt_rowOrRefuse_19_s, ↓xf_xt_rowOrRefuse_s, ↓xf_xt_refuseUnless_s, e1, wq_or, wq_ltT, wq_ltF, wq_inT, wq_clamp, wq_eqF, wq_eqm, wq_meq, wq_add, wq_mul, wq_subT, eq_self, Bool.false_eq_true, ↓reduceIte, Option.bind_some, Sum.elim_inl, Sum.elim_inr, ↓wq_f0b, ↓wq_f1b, ↓wq_f2b, ↓wq_r0b, ↓wq_r1b, ↓Option.bind_some]
    have h2 : xf_rf_from (A 73) (A 66) (A 67) (A 70) (A 71) (A 72) N (S 57 0) (L 76) x y = some (Int32.ofNat 0, Int32.ofNat 1, L 76) := by
      simp (disch := omega) only [xf_rf_from_s, xf_rf_from_22_s, xf_rf_from_27_s, e2, wq_or, wq_f1, wq_ltT, wq_ltF, wq_inT, wq_clamp, wq_eqF, wq_eqm, wq_meq, wq_add, wq_mul, wq_subT, eq_self, Bool.false_eq_true, ↓reduceIte, Option.bind_some, Sum.elim_inl, Sum.elim_inr, ↓wq_f0b, ↓wq_f1b, ↓wq_f2b, ↓wq_r0b, ↓wq_r1b, ↓Option.bind_some]
    exact ⟨_, _, h1, h2, ⟨rfl, fun h => absurd h wq_ne1⟩, wi_out76 hI⟩
  | some p =>
    rw [hf] at e1 e2
    obtain ⟨hp, _⟩ := wq_fx_some hf
    obtain ⟨r1, _⟩ := wi_row hm p hp
    rcases wq_sgn y with hy | ⟨k, hk, rfl⟩
    · have h1 : xf_la_from (L 43) (S 15 1) (A 16) (A 19) 1 N (L 77) x y = some (Int32.ofNat 1, L 77) := by
        simp (disch := omega) only [↓xf_la_from_s, xf_xt_from_s, xf_xt_from_15_s, ↓xf_xt_rowOrRefuse_19_s, ↓xf_xt_rowOrRefuse_s, ↓xf_xt_refuseUnless_s, e1, wq_or, wq_ltT, wq_ltF, wq_inT, wq_clamp, wq_eqF, wq_eqm, wq_meq, wq_add, wq_mul, wq_subT, eq_self, Bool.false_eq_true, ↓reduceIte, Option.bind_some, Sum.elim_inl, Sum.elim_inr, ↓wq_f0b, ↓wq_f1b, ↓wq_f2b, ↓wq_r0b, ↓wq_r1b, ↓Option.bind_some, hy]
      have h2 : xf_rf_from (A 73) (A 66) (A 67) (A 70) (A 71) (A 72) N (S 57 0) (L 76) x y = some (Int32.ofNat 0, Int32.ofNat 1, L 76) := by
        simp (disch := omega) only [xf_rf_from_s, xf_rf_from_22_s, xf_rf_from_27_s, e2, wq_or, wq_f1, wq_ltT, wq_ltF, wq_inT, wq_clamp, wq_eqF, wq_eqm, wq_meq, wq_add, wq_mul, wq_subT, eq_self, Bool.false_eq_true, ↓reduceIte, Option.bind_some, Sum.elim_inl, Sum.elim_inr, ↓wq_f0b, ↓wq_f1b, ↓wq_f2b, ↓wq_r0b, ↓wq_r1b, ↓Option.bind_some, hy]
      exact ⟨_, _, h1, h2, ⟨rfl, fun h => absurd h wq_ne1⟩, wi_out76 hI⟩
    · obtain ⟨ways, w1, w2⟩ := wq_findWays hm.1 hn3 (N := N) (by omega) (L 76)
      obtain ⟨v, v1, v2⟩ := wi_from hm (N := N) (by omega) hp (Int32.ofNat 0) ways w2 n 0 k N (by omega) (by omega) hk
      have h1 : xf_la_from (L 43) (S 15 1) (A 16) (A 19) 1 N (L 77) x (Int32.ofNat k) = some (Int32.ofNat 0, vp_updL (L 77) 0 v.toInt64) := by
        simp (disch := omega) only [↓xf_la_from_s, xf_xt_from_s, xf_xt_from_15_s, ↓xf_xt_rowOrRefuse_19_s, ↓xf_xt_rowOrRefuse_s, ↓xf_xt_refuseUnless_s, e1, wq_or, wq_ltT, wq_ltF, wq_inT, wq_clamp, wq_eqF, wq_eqm, wq_meq, wq_add, wq_mul, wq_subT, eq_self, Bool.false_eq_true, ↓reduceIte, Option.bind_some, Sum.elim_inl, Sum.elim_inr, ↓wq_f0b, ↓wq_f1b, ↓wq_f2b, ↓wq_r0b, ↓wq_r1b, ↓Option.bind_some, v1]
      have h2 : xf_rf_from (A 73) (A 66) (A 67) (A 70) (A 71) (A 72) N (S 57 0) (L 76) x (Int32.ofNat k) = some (v, Int32.ofNat 0, ways) := by
        simp (disch := omega) only [xf_rf_from_s, xf_rf_from_22_s, xf_rf_from_27_s, e2, wq_or, wq_f0, wq_ltT, wq_ltF, wq_inT, wq_clamp, wq_eqF, wq_eqm, wq_meq, wq_add, wq_mul, wq_subT, eq_self, Bool.false_eq_true, ↓reduceIte, Option.bind_some, Sum.elim_inl, Sum.elim_inr, ↓wq_f0b, ↓wq_f1b, ↓wq_f2b, ↓wq_r0b, ↓wq_r1b, ↓Option.bind_some, w1, v2]
      exact ⟨_, _, h1, h2, ⟨rfl, fun _ => wp_cmp _⟩, wi_out76 hI⟩
