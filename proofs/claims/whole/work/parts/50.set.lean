/-! SET. -/
theorem wi_way_congr {n : Nat} {r r' : Nat → Nat → Prop} (h : ∀ p q, p < n → q < n → (r p q ↔ r' p q)) (p q : Nat) : wi_way n r p q ↔ wi_way n r' p q := by
  constructor
  · rintro ⟨l, f, h1, h2, h3, h4, h5⟩
    exact ⟨l, f, h1, h2, h3, h4, fun i hi => (h _ _ (h4 i (by omega)) (h4 (i + 1) (by omega))).mp (h5 i hi)⟩
  · rintro ⟨l, f, h1, h2, h3, h4, h5⟩
    exact ⟨l, f, h1, h2, h3, h4, fun i hi => (h _ _ (h4 i (by omega)) (h4 (i + 1) (by omega))).mpr (h5 i hi)⟩
theorem wi_D_congr {n : Nat} {r r' : Nat → Nat → Prop} {D : Nat → Int32} (h : ∀ p q, p < n → q < n → (r p q ↔ r' p q)) (hD : wi_D n r D) : wi_D n r' D := by
  intro p hp
  rcases hD p hp with ⟨h1, q, h2, h3, h4⟩ | ⟨d, h0, h1, h2, h3⟩
  · exact Or.inl ⟨h1, q, h2, (h p q hp h2).mp h3, h4⟩
  · refine Or.inr ⟨d, h0, h1, fun q hq hr => h2 q hq ((h p q hp hq).mpr hr), ?_⟩
    rcases h3 with h3 | ⟨q, h4, h5, h6⟩
    · exact Or.inl h3
    · exact Or.inr ⟨q, h4, (h p q hp h4).mp h5, h6⟩
theorem wi_G_congr {n : Nat} {o : Nat → Nat} {r r' : Nat → Nat → Prop} {direct reach : Nat → Int64} {depth : Nat → Int32} (h : ∀ p q, p < n → q < n → (r p q ↔ r' p q)) (hG : wi_G n o r direct reach depth) : wi_G n o r' direct reach depth := by
  obtain ⟨g1, g2, g3⟩ := hG
  refine ⟨fun p hp j hj => (g1 p hp j hj).trans ?_, fun p hp j hj => (g2 p hp j hj).trans ?_, wi_D_congr h g3⟩
  · constructor
    · rintro ⟨q, h1, h2, h3⟩
      exact ⟨q, h1, h2, (h p q hp h1).mp h3⟩
    · rintro ⟨q, h1, h2, h3⟩
      exact ⟨q, h1, h2, (h p q hp h1).mpr h3⟩
  · constructor
    · rintro ⟨q, h1, h2, h3⟩
      exact ⟨q, h1, h2, (wi_way_congr h p q).mp h3⟩
    · rintro ⟨q, h1, h2, h3⟩
      exact ⟨q, h1, h2, (wi_way_congr h p q).mpr h3⟩
theorem wq_upd1 {f : Nat → Int32} {i : Nat} {v : Int32} : upd f i v i = v := if_pos rfl
theorem wq_upd2 {f : Nat → Int32} {i j : Nat} {v : Int32} (h : j ≠ i) : upd f i v j = f j := if_neg h
theorem wc_11 {sc : Nat × (Nat → Int32)} {N : Nat} (hN : 41 ≤ N) : wp_Ok sc wi_I (xf_law_11 sc N) := by
  apply wp_red_11
  intro A L S x y v hI
  obtain ⟨hT, hK, ⟨n, R, u, o, a, z, m, t, c, s, hm⟩, ⟨n', R', u', o', a', z', m', t', c', s', hk'⟩⟩ := id hI
  rcases wi_spot hm hN x y with ⟨p, k, hp, hk, rfl, rfl, e1, e2⟩ | ⟨e1, e2⟩
  · obtain ⟨r1, _⟩ := wi_row hm p hp
    obtain ⟨_, _, r2⟩ := hm.1.2.2.2.2.1 p hp
    have hn := (wi_n hm).1
    obtain ⟨f2, f3, _⟩ := hm.2.1.2.2.2.1 p k hp hk
    obtain ⟨f4, f5⟩ := hm.1.2.2.2.2.2 p k hp hk
    have f6 := f5.1
    by_cases b1 : v < (-999999999 : Int32)
    · have h1 : xf_la_set (S 15 1) (A 16) (A 19) (A 18) (A 20) 1 N (S 42 5) (A 21) (L 77) (Int32.ofNat (a p)) (Int32.ofNat k) v = some (Int32.ofNat 1, S 42 5, A 21, L 77) := by
        simp (disch := omega) only [↓xf_la_set_s, ↓xf_xt_set_46_s, ↓xf_xt_set_25_s, ↓xf_xt_set_24_s, ↓xf_xt_set_s, ↓xf_xt_refuseUnless_s, e1, wq_ltT, wq_ltF, wq_inT, wq_clamp, wq_eqF, wq_eqm, wq_meq, wq_add, wq_mul, wq_subT, eq_self, Bool.false_eq_true, ↓reduceIte, Option.bind_some, Sum.elim_inl, Sum.elim_inr, ↓wq_f0b, ↓wq_f1b, ↓wq_f2b, ↓wq_r0b, ↓wq_r1b, ↓Option.bind_some, b1]
      have h2 : xf_rf_set (A 66) (A 67) (A 70) (A 71) N (S 57 0) (A 72) (Int32.ofNat (a p)) (Int32.ofNat k) v = some (Int32.ofNat 0, Int32.ofNat 1, A 72) := by
        simp (disch := omega) only [↓xf_rf_set_47_s, ↓xf_rf_set_42_s, ↓xf_rf_set_s, e2, wq_f1, wq_ltT, wq_ltF, wq_inT, wq_clamp, wq_eqF, wq_eqm, wq_meq, wq_add, wq_mul, wq_subT, eq_self, Bool.false_eq_true, ↓reduceIte, Option.bind_some, Sum.elim_inl, Sum.elim_inr, ↓wq_f0b, ↓wq_f1b, ↓wq_f2b, ↓wq_r0b, ↓wq_r1b, ↓Option.bind_some, b1, ite_self]
      exact ⟨_, _, h1, h2, ⟨rfl, fun h => absurd h wq_ne1⟩, hI⟩
    · by_cases b2 : Int32.ofNat 999999999 < v
      · have h1 : xf_la_set (S 15 1) (A 16) (A 19) (A 18) (A 20) 1 N (S 42 5) (A 21) (L 77) (Int32.ofNat (a p)) (Int32.ofNat k) v = some (Int32.ofNat 1, S 42 5, A 21, L 77) := by
          simp (disch := omega) only [↓xf_la_set_s, ↓xf_xt_set_46_s, ↓xf_xt_set_25_s, ↓xf_xt_set_24_s, ↓xf_xt_set_s, ↓xf_xt_refuseUnless_s, e1, wq_ltT, wq_ltF, wq_inT, wq_clamp, wq_eqF, wq_eqm, wq_meq, wq_add, wq_mul, wq_subT, eq_self, Bool.false_eq_true, ↓reduceIte, Option.bind_some, Sum.elim_inl, Sum.elim_inr, ↓wq_f0b, ↓wq_f1b, ↓wq_f2b, ↓wq_r0b, ↓wq_r1b, ↓Option.bind_some, b1, b2]
        have h2 : xf_rf_set (A 66) (A 67) (A 70) (A 71) N (S 57 0) (A 72) (Int32.ofNat (a p)) (Int32.ofNat k) v = some (Int32.ofNat 0, Int32.ofNat 1, A 72) := by
          simp (disch := omega) only [↓xf_rf_set_47_s, ↓xf_rf_set_42_s, ↓xf_rf_set_s, e2, wq_f1, wq_ltT, wq_ltF, wq_inT, wq_clamp, wq_eqF, wq_eqm, wq_meq, wq_add, wq_mul, wq_subT, eq_self, Bool.false_eq_true, ↓reduceIte, Option.bind_some, Sum.elim_inl, Sum.elim_inr, ↓wq_f0b, ↓wq_f1b, ↓wq_f2b, ↓wq_r0b, ↓wq_r1b, ↓Option.bind_some, b1, b2, ite_self]
        exact ⟨_, _, h1, h2, ⟨rfl, fun h => absurd h wq_ne1⟩, hI⟩
      · by_cases b3 : t p k = 0
        · have h1 : xf_la_set (S 15 1) (A 16) (A 19) (A 18) (A 20) 1 N (S 42 5) (A 21) (L 77) (Int32.ofNat (a p)) (Int32.ofNat k) v = some (Int32.ofNat 0, Int32.ofNat 0, upd (A 21) (o p * 8 + k) v, vp_updL (L 77) 0 (A 72 (8 * p + k)).toInt64) := by
            simp (disch := omega) only [↓xf_la_set_s, ↓xf_xt_set_46_s, ↓xf_xt_set_25_s, ↓xf_xt_set_24_s, ↓xf_xt_set_s, ↓xf_xt_refuseUnless_s, ↓xf_gr_forgetGroups_s, e1, wq_ltT, wq_ltF, wq_inT, wq_clamp, wq_eqF, wq_eqm, wq_meq, wq_add, wq_mul, wq_subT, eq_self, Bool.false_eq_true, ↓reduceIte, Option.bind_some, Sum.elim_inl, Sum.elim_inr, ↓wq_f0b, ↓wq_f1b, ↓wq_f2b, ↓wq_r0b, ↓wq_r1b, ↓Option.bind_some, b1, b2, f2, b3, f3]
          have h2 : xf_rf_set (A 66) (A 67) (A 70) (A 71) N (S 57 0) (A 72) (Int32.ofNat (a p)) (Int32.ofNat k) v = some (A 72 (8 * p + k), Int32.ofNat 0, upd (A 72) (8 * p + k) v) := by
            simp (disch := omega) only [↓xf_rf_set_47_s, ↓xf_rf_set_42_s, ↓xf_rf_set_s, e2, wq_f0, wq_ltT, wq_ltF, wq_inT, wq_clamp, wq_eqF, wq_eqm, wq_meq, wq_add, wq_mul, wq_subT, eq_self, Bool.false_eq_true, ↓reduceIte, Option.bind_some, Sum.elim_inl, Sum.elim_inr, ↓wq_f0b, ↓wq_f1b, ↓wq_f2b, ↓wq_r0b, ↓wq_r1b, ↓Option.bind_some, b1, b2, f4, b3]
          refine ⟨_, _, h1, h2, ⟨rfl, fun _ => wp_cmp _⟩, ?_⟩
          have hkv : (fun j => upd (A 72) (8 * p + k) v (640 + j)) = fun j => A 72 (640 + j) := funext (fun j => wq_upd2 (by omega))
          obtain ⟨V1, V2, V3, V4, V5, V6⟩ := hm.1
          obtain ⟨M1, M2, M3, M4, M5⟩ := hm.2.1
          have V' : wi_V n a z m t c (A 66 0) (A 67) (A 68) (A 69) (A 70) (A 71) (upd (A 72) (8 * p + k) v) (A 73) := by
            refine ⟨V1, V2, V3, V4, V5, fun q l hq hl => ?_⟩
            obtain ⟨w1, w2⟩ := V6 q l hq hl
            obtain ⟨_, _, w3⟩ := V5 q hq
            refine ⟨w1, ?_⟩
            by_cases hql : q = p ∧ l = k
            · obtain ⟨rfl, rfl⟩ := hql
              rw [wq_upd1]
              obtain ⟨z1, z2, z3, _⟩ := w2
              exact ⟨z1, z2, fun e => ⟨(z3 e).1, b1, b2⟩, fun e => by omega, fun e => by omega, fun e => by omega, fun e => by omega, fun e => by omega, fun e => by omega⟩
            · rw [wq_upd2 (by omega)]
              exact w2
          have M' : wi_M n R u o a z m t c s (S 15 0) (S 15 1) (S 15 2) (A 16) (L 17) (A 18) (A 19) (A 20) (upd (A 21) (o p * 8 + k) v) (A 22) (A 23) (A 69) (upd (A 72) (8 * p + k) v) (A 73) := by
            refine ⟨M1, M2, M3, fun q l hq hl => ?_, M5⟩
            obtain ⟨w1, w2, w3⟩ := M4 q l hq hl
            obtain ⟨_, _, w4⟩ := V5 q hq
            refine ⟨w1, ?_, w3⟩
            by_cases hql : q = p ∧ l = k
            · obtain ⟨rfl, rfl⟩ := hql
              rw [wq_upd1, wq_upd1]
            · have h5 : ¬ (o q = o p ∧ l = k) := fun hh => hql ⟨M3 q p hq hp hh.1, hh.2⟩
              rw [wq_upd2 (by omega), wq_upd2 (by omega)]
              exact w2
          have G' : wi_G n o (wi_ref a z t c (upd (A 72) (8 * p + k) v) (A 73)) (L 43) (L 44) (A 45) := by
            refine wi_G_congr ?_ hm.2.2.1
            intro q q' hq hq'
            obtain ⟨_, _, w4⟩ := V5 q hq
            constructor
            · rintro ⟨l, hl, ⟨g1, g2⟩ | g1⟩
              · refine ⟨l, hl, Or.inl ⟨g1, ?_⟩⟩
                have h5 : ¬ (q = p ∧ l = k) := fun hh => by
                  rw [hh.1, hh.2] at g1
                  omega
                rw [wq_upd2 (by omega)]
                exact g2
              · exact ⟨l, hl, Or.inr g1⟩
            · rintro ⟨l, hl, ⟨g1, g2⟩ | g1⟩
              · refine ⟨l, hl, Or.inl ⟨g1, ?_⟩⟩
                have h5 : ¬ (q = p ∧ l = k) := fun hh => by
                  rw [hh.1, hh.2] at g1
                  omega
                rw [wq_upd2 (by omega)] at g2
                exact g2
              · exact ⟨l, hl, Or.inr g1⟩
          have Kp : wi_Kept (xy_a (xy_a A 72 (upd (A 72) (8 * p + k) v)) 21 (upd (A 21) (o p * 8 + k) v)) L S n' R' u' o' a' z' m' t' c' s' := by
            show wi_V n' a' z' m' t' c' (A 66 2) (fun p => A 67 (80 + p)) (fun p => A 68 (80 + p)) (fun i => A 69 (640 + i)) (fun p => A 70 (80 + p)) (fun k => A 71 (640 + k)) (fun j => upd (A 72) (8 * p + k) v (640 + j)) (fun i => A 73 (12800 + i)) ∧
              wi_M n' R' u' o' a' z' m' t' c' s' (S 33 0) (S 33 1) (S 33 2) (A 34) (L 35) (A 36) (A 37) (A 38) (A 39) (A 40) (A 41) (fun i => A 69 (640 + i)) (fun j => upd (A 72) (8 * p + k) v (640 + j)) (fun i => A 73 (12800 + i))
            rw [hkv]
            exact hk'
          exact ⟨hT, hK, ⟨n, R, u, o, a, z, m, t, c, s, V', M', G', Or.inl rfl⟩, ⟨n', R', u', o', a', z', m', t', c', s', Kp⟩⟩
        · have h1 : xf_la_set (S 15 1) (A 16) (A 19) (A 18) (A 20) 1 N (S 42 5) (A 21) (L 77) (Int32.ofNat (a p)) (Int32.ofNat k) v = some (Int32.ofNat 1, S 42 5, A 21, L 77) := by
            simp (disch := omega) only [↓xf_la_set_s, ↓xf_xt_set_46_s, ↓xf_xt_set_25_s, ↓xf_xt_set_24_s, ↓xf_xt_set_s, ↓xf_xt_refuseUnless_s, e1, wq_ltT, wq_ltF, wq_inT, wq_clamp, wq_eqF, wq_eqm, wq_meq, wq_add, wq_mul, wq_subT, eq_self, Bool.false_eq_true, ↓reduceIte, Option.bind_some, Sum.elim_inl, Sum.elim_inr, ↓wq_f0b, ↓wq_f1b, ↓wq_f2b, ↓wq_r0b, ↓wq_r1b, ↓Option.bind_some, b1, b2, f2]
          have h2 : xf_rf_set (A 66) (A 67) (A 70) (A 71) N (S 57 0) (A 72) (Int32.ofNat (a p)) (Int32.ofNat k) v = some (Int32.ofNat 0, Int32.ofNat 1, A 72) := by
            simp (disch := omega) only [↓xf_rf_set_47_s, ↓xf_rf_set_42_s, ↓xf_rf_set_s, e2, wq_f1, wq_ltT, wq_ltF, wq_inT, wq_clamp, wq_eqF, wq_eqm, wq_meq, wq_add, wq_mul, wq_subT, eq_self, Bool.false_eq_true, ↓reduceIte, Option.bind_some, Sum.elim_inl, Sum.elim_inr, ↓wq_f0b, ↓wq_f1b, ↓wq_f2b, ↓wq_r0b, ↓wq_r1b, ↓Option.bind_some, f4]
          exact ⟨_, _, h1, h2, ⟨rfl, fun h => absurd h wq_ne1⟩, hI⟩
  · have h1 : xf_la_set (S 15 1) (A 16) (A 19) (A 18) (A 20) 1 N (S 42 5) (A 21) (L 77) x y v = some (Int32.ofNat 1, S 42 5, A 21, L 77) := by
      simp (disch := omega) only [↓xf_la_set_s, ↓xf_xt_set_46_s, ↓xf_xt_set_25_s, ↓xf_xt_set_24_s, ↓xf_xt_set_s, ↓xf_xt_refuseUnless_s, e1, wq_ltT, wq_ltF, wq_inT, wq_clamp, wq_eqF, wq_eqm, wq_meq, wq_add, wq_mul, wq_subT, eq_self, Bool.false_eq_true, ↓reduceIte, Option.bind_some, Sum.elim_inl, Sum.elim_inr, ↓wq_f0b, ↓wq_f1b, ↓wq_f2b, ↓wq_r0b, ↓wq_r1b, ↓Option.bind_some]
    have h2 : xf_rf_set (A 66) (A 67) (A 70) (A 71) N (S 57 0) (A 72) x y v = some (Int32.ofNat 0, Int32.ofNat 1, A 72) := by
      simp (disch := omega) only [↓xf_rf_set_47_s, ↓xf_rf_set_42_s, ↓xf_rf_set_s, e2, wq_f1, wq_ltT, wq_ltF, wq_inT, wq_clamp, wq_eqF, wq_eqm, wq_meq, wq_add, wq_mul, wq_subT, eq_self, Bool.false_eq_true, ↓reduceIte, Option.bind_some, Sum.elim_inl, Sum.elim_inr, ↓wq_f0b, ↓wq_f1b, ↓wq_f2b, ↓wq_r0b, ↓wq_r1b, ↓Option.bind_some]
    exact ⟨_, _, h1, h2, ⟨rfl, fun h => absurd h wq_ne1⟩, hI⟩
