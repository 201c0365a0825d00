/-! ARGUMENTS AND ITEMS. -/
section
variable {n R u : Nat} {o a z m : Nat → Nat} {t c s : Nat → Nat → Nat} {rows lines used rl : Int32} {number : Nat → Int32} {name : Nat → Int64} {size order sort value start items names values ritems numbers letters parts sorts : Nat → Int32}
theorem wq_itemsOf (hM : wi_M n R u o a z m t c s rows lines used number name size order sort value start items names values ritems) (hV : wi_V n a z m t c rl numbers letters names parts sorts values ritems) {p k : Nat} (hp : p < n) (hk : k < z p) : xf_md_itemsOf sort value (Int32.ofNat (o p * 8 + k)) = some (Int32.ofNat (c p k)) := by
  obtain ⟨⟨g1, g2, g3, _⟩, g4, _, g5, _⟩ := hM
  obtain ⟨_, _, _, _, g6, g7⟩ := hV
  obtain ⟨f1, _⟩ := g4 p hp
  obtain ⟨f2, f3, _⟩ := g5 p k hp hk
  obtain ⟨_, f4, f5⟩ := g6 p hp
  obtain ⟨_, w, w', w0, w1, w2, w3, w4, w5, w6⟩ := g7 p k hp hk
  have ht : t p k = 0 ∨ t p k = 1 ∨ t p k = 2 ∨ t p k = 3 ∨ t p k = 4 ∨ t p k = 5 ∨ t p k = 6 := by omega
  rcases ht with e | e | e | e | e | e | e
  · simp (disch := omega) only [↓xf_md_itemsOf_32_s, ↓xf_md_itemsOf_22_s, ↓xf_md_itemsOf_s, wq_ltT, wq_ltF, wq_inT, wq_clamp, wq_eqF, wq_eqm, wq_meq, wq_add, wq_mul, wq_subT, eq_self, Bool.false_eq_true, ↓reduceIte, Option.bind_some, Sum.elim_inl, Sum.elim_inr, ↓wq_f0b, ↓wq_f1b, ↓wq_f2b, ↓wq_r0b, ↓wq_r1b, ↓Option.bind_some, f2, e, (w0 e).1]
  · simp (disch := omega) only [↓xf_md_itemsOf_32_s, ↓xf_md_itemsOf_22_s, ↓xf_md_itemsOf_s, wq_ltT, wq_ltF, wq_inT, wq_clamp, wq_eqF, wq_eqm, wq_meq, wq_add, wq_mul, wq_subT, eq_self, Bool.false_eq_true, ↓reduceIte, Option.bind_some, Sum.elim_inl, Sum.elim_inr, ↓wq_f0b, ↓wq_f1b, ↓wq_f2b, ↓wq_r0b, ↓wq_r1b, ↓Option.bind_some, f2, e, f3, (w1 e).1]
  · simp (disch := omega) only [↓xf_md_itemsOf_32_s, ↓xf_md_itemsOf_22_s, ↓xf_md_itemsOf_s, wq_ltT, wq_ltF, wq_inT, wq_clamp, wq_eqF, wq_eqm, wq_meq, wq_add, wq_mul, wq_subT, eq_self, Bool.false_eq_true, ↓reduceIte, Option.bind_some, Sum.elim_inl, Sum.elim_inr, ↓wq_f0b, ↓wq_f1b, ↓wq_f2b, ↓wq_r0b, ↓wq_r1b, ↓Option.bind_some, f2, e, (w2 e).1]
  · simp (disch := omega) only [↓xf_md_itemsOf_32_s, ↓xf_md_itemsOf_22_s, ↓xf_md_itemsOf_s, wq_ltT, wq_ltF, wq_inT, wq_clamp, wq_eqF, wq_eqm, wq_meq, wq_add, wq_mul, wq_subT, eq_self, Bool.false_eq_true, ↓reduceIte, Option.bind_some, Sum.elim_inl, Sum.elim_inr, ↓wq_f0b, ↓wq_f1b, ↓wq_f2b, ↓wq_r0b, ↓wq_r1b, ↓Option.bind_some, f2, e, f3, (w3 e).1]
  · simp (disch := omega) only [↓xf_md_itemsOf_32_s, ↓xf_md_itemsOf_22_s, ↓xf_md_itemsOf_s, wq_ltT, wq_ltF, wq_inT, wq_clamp, wq_eqF, wq_eqm, wq_meq, wq_add, wq_mul, wq_subT, eq_self, Bool.false_eq_true, ↓reduceIte, Option.bind_some, Sum.elim_inl, Sum.elim_inr, ↓wq_f0b, ↓wq_f1b, ↓wq_f2b, ↓wq_r0b, ↓wq_r1b, ↓Option.bind_some, f2, e, f3, (w4 e).1]
  · simp (disch := omega) only [↓xf_md_itemsOf_32_s, ↓xf_md_itemsOf_22_s, ↓xf_md_itemsOf_s, wq_ltT, wq_ltF, wq_inT, wq_clamp, wq_eqF, wq_eqm, wq_meq, wq_add, wq_mul, wq_subT, eq_self, Bool.false_eq_true, ↓reduceIte, Option.bind_some, Sum.elim_inl, Sum.elim_inr, ↓wq_f0b, ↓wq_f1b, ↓wq_f2b, ↓wq_r0b, ↓wq_r1b, ↓Option.bind_some, f2, e, f3, (w5 e).1]
  · simp (disch := omega) only [↓xf_md_itemsOf_32_s, ↓xf_md_itemsOf_22_s, ↓xf_md_itemsOf_s, wq_ltT, wq_ltF, wq_inT, wq_clamp, wq_eqF, wq_eqm, wq_meq, wq_add, wq_mul, wq_subT, eq_self, Bool.false_eq_true, ↓reduceIte, Option.bind_some, Sum.elim_inl, Sum.elim_inr, ↓wq_f0b, ↓wq_f1b, ↓wq_f2b, ↓wq_r0b, ↓wq_r1b, ↓Option.bind_some, f2, e, (w6 e).1]
theorem wq_itemAt (hM : wi_M n R u o a z m t c s rows lines used number name size order sort value start items names values ritems) (hV : wi_V n a z m t c rl numbers letters names parts sorts values ritems) {p k i : Nat} (hp : p < n) (hk : k < z p) (hi : i < c p k) : xf_md_itemAt items start used (Int32.ofNat (o p * 8 + k)) (Int32.ofNat i) = some (ritems (20 * (8 * p + k) + i)) := by
  obtain ⟨⟨g1, g2, g3, _, _, g0⟩, g4, _, g5, _⟩ := hM
  obtain ⟨_, _, _, _, g6, g7⟩ := hV
  obtain ⟨f1, _⟩ := g4 p hp
  obtain ⟨f2, f3, f6⟩ := g5 p k hp hk
  obtain ⟨_, f4, f5⟩ := g6 p hp
  obtain ⟨d1, d2, d3⟩ := f6 (by omega)
  have d4 := d3 i hi
  simp (disch := omega) only [↓xf_md_itemAt_31_s, ↓xf_md_itemAt_30_s, ↓xf_md_itemAt_s, wq_ltT, wq_ltF, wq_inT, wq_clamp, wq_eqF, wq_eqm, wq_meq, wq_add, wq_mul, wq_subT, eq_self, Bool.false_eq_true, ↓reduceIte, Option.bind_some, Sum.elim_inl, Sum.elim_inr, ↓wq_f0b, ↓wq_f1b, ↓wq_f2b, ↓wq_r0b, ↓wq_r1b, ↓Option.bind_some, d1, g0, d4]
theorem wq_isItems (hV : wi_V n a z m t c rl numbers letters names parts sorts values ritems) {p k : Nat} (hp : p < n) (hk : k < z p) : ((t p k = 0 ∨ t p k = 2 ∨ t p k = 6) ∧ c p k = 0) ∨ (t p k ≠ 0 ∧ t p k ≠ 2 ∧ t p k ≠ 6 ∧ t p k ≤ 6 ∧ values (8 * p + k) = Int32.ofNat (c p k) ∧ c p k ≤ 20) := by
  obtain ⟨_, _, _, _, g6, g7⟩ := hV
  obtain ⟨_, w, w', w0, w1, w2, w3, w4, w5, w6⟩ := g7 p k hp hk
  have ht : t p k = 0 ∨ t p k = 1 ∨ t p k = 2 ∨ t p k = 3 ∨ t p k = 4 ∨ t p k = 5 ∨ t p k = 6 := by omega
  rcases ht with e | e | e | e | e | e | e
  · exact Or.inl ⟨Or.inl e, (w0 e).1⟩
  · exact Or.inr ⟨by omega, by omega, by omega, w, (w1 e).1, w'⟩
  · exact Or.inl ⟨Or.inr (Or.inl e), (w2 e).1⟩
  · exact Or.inr ⟨by omega, by omega, by omega, w, (w3 e).1, w'⟩
  · exact Or.inr ⟨by omega, by omega, by omega, w, (w4 e).1, w'⟩
  · exact Or.inr ⟨by omega, by omega, by omega, w, (w5 e).1, w'⟩
  · exact Or.inl ⟨Or.inr (Or.inr e), (w6 e).1⟩
end
theorem wc_9 {sc : Nat × (Nat → Int32)} {N : Nat} (hN : 41 ≤ N) : wp_Ok sc wi_I (xf_law_9 sc N) := by
  apply wp_red_9
  intro A L S x y v hI
  obtain ⟨_, _, ⟨n, R, u, o, a, z, m, t, c, s, hm⟩, _⟩ := id hI
  rcases wi_spot hm hN x y with ⟨p, k, hp, hk, rfl, rfl, e1, e2⟩ | ⟨e1, e2⟩
  · obtain ⟨r1, _⟩ := wi_row hm p hp
    obtain ⟨_, _, r2⟩ := hm.1.2.2.2.2.1 p hp
    have hn := (wi_n hm).1
    obtain ⟨f2, f3, _⟩ := hm.2.1.2.2.2.1 p k hp hk
    have f4 := (hm.1.2.2.2.2.2 p k hp hk).1
    rcases wq_sgn v with hv | ⟨j, hj, rfl⟩
    · have h1 : xf_la_argument (S 15 1) (A 16) (A 19) (A 18) (A 20) (A 21) 1 N (L 77) (Int32.ofNat (a p)) (Int32.ofNat k) v = some (Int32.ofNat 1, L 77) := by
        simp (disch := omega) only [↓xf_la_argument_s, ↓xf_xt_argument_52_s, ↓xf_xt_argument_22_s, ↓xf_xt_argument_17_s, ↓xf_xt_argument_s, ↓xf_xt_refuseUnless_s, e1, wq_ltT, wq_ltF, wq_inT, wq_clamp, wq_eqF, wq_eqm, wq_meq, wq_add, wq_mul, wq_subT, eq_self, Bool.false_eq_true, ↓reduceIte, Option.bind_some, Sum.elim_inl, Sum.elim_inr, ↓wq_f0b, ↓wq_f1b, ↓wq_f2b, ↓wq_r0b, ↓wq_r1b, ↓Option.bind_some, wq_neg hv]
      have h2 : xf_rf_argument3 (A 66) (A 67) (A 70) (A 71) (A 72) N (S 57 0) (Int32.ofNat (a p)) (Int32.ofNat k) v = some (Int32.ofNat 0, Int32.ofNat 1) := by
        simp (disch := omega) only [↓xf_rf_argument3_64_s, ↓xf_rf_argument3_34_s, ↓xf_rf_argument3_29_s, ↓xf_rf_argument3_s, e2, wq_f1, wq_ltT, wq_ltF, wq_inT, wq_clamp, wq_eqF, wq_eqm, wq_meq, wq_add, wq_mul, wq_subT, eq_self, Bool.false_eq_true, ↓reduceIte, Option.bind_some, Sum.elim_inl, Sum.elim_inr, ↓wq_f0b, ↓wq_f1b, ↓wq_f2b, ↓wq_r0b, ↓wq_r1b, ↓Option.bind_some, hv]
      exact ⟨_, _, h1, h2, ⟨rfl, fun h => absurd h wq_ne1⟩, wi_out hI⟩
    · by_cases g0 : j = 0
      · subst g0
        have h1 : xf_la_argument (S 15 1) (A 16) (A 19) (A 18) (A 20) (A 21) 1 N (L 77) (Int32.ofNat (a p)) (Int32.ofNat k) (Int32.ofNat 0) = some (Int32.ofNat 0, vp_updL (L 77) 0 (Int32.ofNat (t p k)).toInt64) := by
          simp (disch := omega) only [↓xf_la_argument_s, ↓xf_xt_argument_52_s, ↓xf_xt_argument_22_s, ↓xf_xt_argument_17_s, ↓xf_xt_argument_s, ↓xf_xt_refuseUnless_s, e1, wq_ltT, wq_ltF, wq_inT, wq_clamp, wq_eqF, wq_eqm, wq_meq, wq_add, wq_mul, wq_subT, eq_self, Bool.false_eq_true, ↓reduceIte, Option.bind_some, Sum.elim_inl, Sum.elim_inr, ↓wq_f0b, ↓wq_f1b, ↓wq_f2b, ↓wq_r0b, ↓wq_r1b, ↓Option.bind_some, f2]
        have h2 : xf_rf_argument3 (A 66) (A 67) (A 70) (A 71) (A 72) N (S 57 0) (Int32.ofNat (a p)) (Int32.ofNat k) (Int32.ofNat 0) = some (Int32.ofNat (t p k), Int32.ofNat 0) := by
          simp (disch := omega) only [↓xf_rf_argument3_64_s, ↓xf_rf_argument3_34_s, ↓xf_rf_argument3_29_s, ↓xf_rf_argument3_s, e2, wq_f0, wq_ltT, wq_ltF, wq_inT, wq_clamp, wq_eqF, wq_eqm, wq_meq, wq_add, wq_mul, wq_subT, eq_self, Bool.false_eq_true, ↓reduceIte, Option.bind_some, Sum.elim_inl, Sum.elim_inr, ↓wq_f0b, ↓wq_f1b, ↓wq_f2b, ↓wq_r0b, ↓wq_r1b, ↓Option.bind_some, f4]
        exact ⟨_, _, h1, h2, ⟨rfl, fun _ => wp_cmp _⟩, wi_out hI⟩
      · by_cases g1 : j = 1
        · subst g1
          have h1 : xf_la_argument (S 15 1) (A 16) (A 19) (A 18) (A 20) (A 21) 1 N (L 77) (Int32.ofNat (a p)) (Int32.ofNat k) (Int32.ofNat 1) = some (Int32.ofNat 0, vp_updL (L 77) 0 (A 72 (8 * p + k)).toInt64) := by
            simp (disch := omega) only [↓xf_la_argument_s, ↓xf_xt_argument_52_s, ↓xf_xt_argument_22_s, ↓xf_xt_argument_17_s, ↓xf_xt_argument_s, ↓xf_xt_refuseUnless_s, e1, wq_ltT, wq_ltF, wq_inT, wq_clamp, wq_eqF, wq_eqm, wq_meq, wq_add, wq_mul, wq_subT, eq_self, Bool.false_eq_true, ↓reduceIte, Option.bind_some, Sum.elim_inl, Sum.elim_inr, ↓wq_f0b, ↓wq_f1b, ↓wq_f2b, ↓wq_r0b, ↓wq_r1b, ↓Option.bind_some, f3]
          have h2 : xf_rf_argument3 (A 66) (A 67) (A 70) (A 71) (A 72) N (S 57 0) (Int32.ofNat (a p)) (Int32.ofNat k) (Int32.ofNat 1) = some (A 72 (8 * p + k), Int32.ofNat 0) := by
            simp (disch := omega) only [↓xf_rf_argument3_64_s, ↓xf_rf_argument3_34_s, ↓xf_rf_argument3_29_s, ↓xf_rf_argument3_s, e2, wq_f0, wq_ltT, wq_ltF, wq_inT, wq_clamp, wq_eqF, wq_eqm, wq_meq, wq_add, wq_mul, wq_subT, eq_self, Bool.false_eq_true, ↓reduceIte, Option.bind_some, Sum.elim_inl, Sum.elim_inr, ↓wq_f0b, ↓wq_f1b, ↓wq_f2b, ↓wq_r0b, ↓wq_r1b, ↓Option.bind_some]
          exact ⟨_, _, h1, h2, ⟨rfl, fun _ => wp_cmp _⟩, wi_out hI⟩
        · have h1 : xf_la_argument (S 15 1) (A 16) (A 19) (A 18) (A 20) (A 21) 1 N (L 77) (Int32.ofNat (a p)) (Int32.ofNat k) (Int32.ofNat j) = some (Int32.ofNat 1, L 77) := by
            simp (disch := omega) only [↓xf_la_argument_s, ↓xf_xt_argument_52_s, ↓xf_xt_argument_22_s, ↓xf_xt_argument_17_s, ↓xf_xt_argument_s, ↓xf_xt_refuseUnless_s, e1, wq_ltT, wq_ltF, wq_inT, wq_clamp, wq_eqF, wq_eqm, wq_meq, wq_add, wq_mul, wq_subT, eq_self, Bool.false_eq_true, ↓reduceIte, Option.bind_some, Sum.elim_inl, Sum.elim_inr, ↓wq_f0b, ↓wq_f1b, ↓wq_f2b, ↓wq_r0b, ↓wq_r1b, ↓Option.bind_some]
          have h2 : xf_rf_argument3 (A 66) (A 67) (A 70) (A 71) (A 72) N (S 57 0) (Int32.ofNat (a p)) (Int32.ofNat k) (Int32.ofNat j) = some (Int32.ofNat 0, Int32.ofNat 1) := by
            simp (disch := omega) only [↓xf_rf_argument3_64_s, ↓xf_rf_argument3_34_s, ↓xf_rf_argument3_29_s, ↓xf_rf_argument3_s, e2, wq_f1, wq_ltT, wq_ltF, wq_inT, wq_clamp, wq_eqF, wq_eqm, wq_meq, wq_add, wq_mul, wq_subT, eq_self, Bool.false_eq_true, ↓reduceIte, Option.bind_some, Sum.elim_inl, Sum.elim_inr, ↓wq_f0b, ↓wq_f1b, ↓wq_f2b, ↓wq_r0b, ↓wq_r1b, ↓Option.bind_some]
          exact ⟨_, _, h1, h2, ⟨rfl, fun h => absurd h wq_ne1⟩, wi_out hI⟩
  · have h1 : xf_la_argument (S 15 1) (A 16) (A 19) (A 18) (A 20) (A 21) 1 N (L 77) x y v = some (Int32.ofNat 1, L 77) := by
      simp (disch := omega) only [↓xf_la_argument_s, ↓xf_xt_argument_52_s, ↓xf_xt_argument_22_s, ↓xf_xt_argument_17_s, ↓xf_xt_argument_s, ↓xf_xt_refuseUnless_s, e1, wq_ltT, wq_ltF, wq_inT, wq_clamp, wq_eqF, wq_eqm, wq_meq, wq_add, wq_mul, wq_subT, eq_self, Bool.false_eq_true, ↓reduceIte, Option.bind_some, Sum.elim_inl, Sum.elim_inr, ↓wq_f0b, ↓wq_f1b, ↓wq_f2b, ↓wq_r0b, ↓wq_r1b, ↓Option.bind_some]
    have h2 : xf_rf_argument3 (A 66) (A 67) (A 70) (A 71) (A 72) N (S 57 0) x y v = some (Int32.ofNat 0, Int32.ofNat 1) := by
      simp (disch := omega) only [↓xf_rf_argument3_64_s, ↓xf_rf_argument3_34_s, ↓xf_rf_argument3_29_s, ↓xf_rf_argument3_s, e2, wq_f1, wq_ltT, wq_ltF, wq_inT, wq_clamp, wq_eqF, wq_eqm, wq_meq, wq_add, wq_mul, wq_subT, eq_self, Bool.false_eq_true, ↓reduceIte, Option.bind_some, Sum.elim_inl, Sum.elim_inr, ↓wq_f0b, ↓wq_f1b, ↓wq_f2b, ↓wq_r0b, ↓wq_r1b, ↓Option.bind_some]
    exact ⟨_, _, h1, h2, ⟨rfl, fun h => absurd h wq_ne1⟩, wi_out hI⟩
theorem wc_10 {sc : Nat × (Nat → Int32)} {N : Nat} (hN : 41 ≤ N) : wp_Ok sc wi_I (xf_law_10 sc N) := by
  apply wp_red_10
  intro A L S x y v hI
  obtain ⟨_, _, ⟨n, R, u, o, a, z, m, t, c, s, hm⟩, _⟩ := id hI
  rcases wi_spot hm hN x y with ⟨p, k, hp, hk, rfl, rfl, e1, e2⟩ | ⟨e1, e2⟩
  · obtain ⟨r1, _⟩ := wi_row hm p hp
    obtain ⟨_, _, r2⟩ := hm.1.2.2.2.2.1 p hp
    have hn := (wi_n hm).1
    have f4 := (hm.1.2.2.2.2.2 p k hp hk).1
    have i1 := wq_itemsOf hm.2.1 hm.1 hp hk
    rcases wq_sgn v with hv | ⟨j, hj, rfl⟩
    · have h1 : xf_la_item (A 23) (S 15 1) (A 16) (A 19) (A 18) (A 20) (A 22) (S 15 2) (A 21) 1 N (L 77) (Int32.ofNat (a p)) (Int32.ofNat k) v = some (Int32.ofNat 1, L 77) := by
        simp (disch := omega) only [↓xf_la_item_s, ↓xf_xt_item_30_s, ↓xf_xt_item_29_s, ↓xf_xt_item_s, ↓xf_xt_refuseUnless_s, e1, ↓wq_b e1, wq_ltT, wq_ltF, wq_inT, wq_clamp, wq_eqF, wq_eqm, wq_meq, wq_add, wq_mul, wq_subT, eq_self, Bool.false_eq_true, ↓reduceIte, Option.bind_some, Sum.elim_inl, Sum.elim_inr, ↓wq_f0b, ↓wq_f1b, ↓wq_f2b, ↓wq_r0b, ↓wq_r1b, ↓Option.bind_some, hv]
      have h2 : xf_rf_item (A 73) (A 66) (A 67) (A 70) (A 71) (A 72) N (S 57 0) (Int32.ofNat (a p)) (Int32.ofNat k) v = some (Int32.ofNat 0, Int32.ofNat 1) := by
        simp (disch := omega) only [↓xf_rf_item_85_s, ↓xf_rf_item_80_s, ↓xf_rf_item_57_s, ↓xf_rf_item_56_s, ↓xf_rf_item_s, e2, ↓wq_b e2, wq_f1, wq_ltT, wq_ltF, wq_inT, wq_clamp, wq_eqF, wq_eqm, wq_meq, wq_add, wq_mul, wq_subT, eq_self, Bool.false_eq_true, ↓reduceIte, Option.bind_some, Sum.elim_inl, Sum.elim_inr, ↓wq_f0b, ↓wq_f1b, ↓wq_f2b, ↓wq_r0b, ↓wq_r1b, ↓Option.bind_some, hv, ite_self]
      exact ⟨_, _, h1, h2, ⟨rfl, fun h => absurd h wq_ne1⟩, wi_out hI⟩
    · rcases wq_isItems hm.1 hp hk with ⟨w1, w2⟩ | ⟨w1, w2, w3, w4, w5, w6⟩
      · have h1 : xf_la_item (A 23) (S 15 1) (A 16) (A 19) (A 18) (A 20) (A 22) (S 15 2) (A 21) 1 N (L 77) (Int32.ofNat (a p)) (Int32.ofNat k) (Int32.ofNat j) = some (Int32.ofNat 1, L 77) := by
          simp (disch := omega) only [↓xf_la_item_s, ↓xf_xt_item_30_s, ↓xf_xt_item_29_s, ↓xf_xt_item_s, ↓xf_xt_refuseUnless_s, e1, ↓wq_b e1, wq_ltT, wq_ltF, wq_inT, wq_clamp, wq_eqF, wq_eqm, wq_meq, wq_add, wq_mul, wq_subT, eq_self, Bool.false_eq_true, ↓reduceIte, Option.bind_some, Sum.elim_inl, Sum.elim_inr, ↓wq_f0b, ↓wq_f1b, ↓wq_f2b, ↓wq_r0b, ↓wq_r1b, ↓Option.bind_some, i1, w2]
        have h2 : xf_rf_item (A 73) (A 66) (A 67) (A 70) (A 71) (A 72) N (S 57 0) (Int32.ofNat (a p)) (Int32.ofNat k) (Int32.ofNat j) = some (Int32.ofNat 0, Int32.ofNat 1) := by
          rcases w1 with w1 | w1 | w1
          · simp (disch := omega) only [↓xf_rf_item_85_s, ↓xf_rf_item_80_s, ↓xf_rf_item_57_s, ↓xf_rf_item_56_s, ↓xf_rf_item_s, e2, ↓wq_b e2, wq_f1, wq_ltT, wq_ltF, wq_inT, wq_clamp, wq_eqF, wq_eqm, wq_meq, wq_add, wq_mul, wq_subT, eq_self, Bool.false_eq_true, ↓reduceIte, Option.bind_some, Sum.elim_inl, Sum.elim_inr, ↓wq_f0b, ↓wq_f1b, ↓wq_f2b, ↓wq_r0b, ↓wq_r1b, ↓Option.bind_some, f4, w1]
          · simp (disch := omega) only [↓xf_rf_item_85_s, ↓xf_rf_item_80_s, ↓xf_rf_item_57_s, ↓xf_rf_item_56_s, ↓xf_rf_item_s, e2, ↓wq_b e2, wq_f1, wq_ltT, wq_ltF, wq_inT, wq_clamp, wq_eqF, wq_eqm, wq_meq, wq_add, wq_mul, wq_subT, eq_self, Bool.false_eq_true, ↓reduceIte, Option.bind_some, Sum.elim_inl, Sum.elim_inr, ↓wq_f0b, ↓wq_f1b, ↓wq_f2b, ↓wq_r0b, ↓wq_r1b, ↓Option.bind_some, f4, w1]
          · simp (disch := omega) only [↓xf_rf_item_85_s, ↓xf_rf_item_80_s, ↓xf_rf_item_57_s, ↓xf_rf_item_56_s, ↓xf_rf_item_s, e2, ↓wq_b e2, wq_f1, wq_ltT, wq_ltF, wq_inT, wq_clamp, wq_eqF, wq_eqm, wq_meq, wq_add, wq_mul, wq_subT, eq_self, Bool.false_eq_true, ↓reduceIte, Option.bind_some, Sum.elim_inl, Sum.elim_inr, ↓wq_f0b, ↓wq_f1b, ↓wq_f2b, ↓wq_r0b, ↓wq_r1b, ↓Option.bind_some, f4, w1]
        exact ⟨_, _, h1, h2, ⟨rfl, fun h => absurd h wq_ne1⟩, wi_out hI⟩
      · by_cases hj2 : j < c p k
        · have i2 := wq_itemAt hm.2.1 hm.1 hp hk hj2
          have h1 : xf_la_item (A 23) (S 15 1) (A 16) (A 19) (A 18) (A 20) (A 22) (S 15 2) (A 21) 1 N (L 77) (Int32.ofNat (a p)) (Int32.ofNat k) (Int32.ofNat j) = some (Int32.ofNat 0, vp_updL (L 77) 0 (A 73 (20 * (8 * p + k) + j)).toInt64) := by
            simp (disch := omega) only [↓xf_la_item_s, ↓xf_xt_item_30_s, ↓xf_xt_item_29_s, ↓xf_xt_item_s, ↓xf_xt_refuseUnless_s, e1, ↓wq_b e1, wq_ltT, wq_ltF, wq_inT, wq_clamp, wq_eqF, wq_eqm, wq_meq, wq_add, wq_mul, wq_subT, eq_self, Bool.false_eq_true, ↓reduceIte, Option.bind_some, Sum.elim_inl, Sum.elim_inr, ↓wq_f0b, ↓wq_f1b, ↓wq_f2b, ↓wq_r0b, ↓wq_r1b, ↓Option.bind_some, i1, i2]
          have h2 : xf_rf_item (A 73) (A 66) (A 67) (A 70) (A 71) (A 72) N (S 57 0) (Int32.ofNat (a p)) (Int32.ofNat k) (Int32.ofNat j) = some (A 73 (20 * (8 * p + k) + j), Int32.ofNat 0) := by
            simp (disch := omega) only [↓xf_rf_item_85_s, ↓xf_rf_item_80_s, ↓xf_rf_item_57_s, ↓xf_rf_item_56_s, ↓xf_rf_item_s, e2, ↓wq_b e2, wq_f0, wq_ltT, wq_ltF, wq_inT, wq_clamp, wq_eqF, wq_eqm, wq_meq, wq_add, wq_mul, wq_subT, eq_self, Bool.false_eq_true, ↓reduceIte, Option.bind_some, Sum.elim_inl, Sum.elim_inr, ↓wq_f0b, ↓wq_f1b, ↓wq_f2b, ↓wq_r0b, ↓wq_r1b, ↓Option.bind_some, f4, w5]
          exact ⟨_, _, h1, h2, ⟨rfl, fun _ => wp_cmp _⟩, wi_out hI⟩
        · have h1 : xf_la_item (A 23) (S 15 1) (A 16) (A 19) (A 18) (A 20) (A 22) (S 15 2) (A 21) 1 N (L 77) (Int32.ofNat (a p)) (Int32.ofNat k) (Int32.ofNat j) = some (Int32.ofNat 1, L 77) := by
            simp (disch := omega) only [↓xf_la_item_s, ↓xf_xt_item_30_s, ↓xf_xt_item_29_s, ↓xf_xt_item_s, ↓xf_xt_refuseUnless_s, e1, ↓wq_b e1, wq_ltT, wq_ltF, wq_inT, wq_clamp, wq_eqF, wq_eqm, wq_meq, wq_add, wq_mul, wq_subT, eq_self, Bool.false_eq_true, ↓reduceIte, Option.bind_some, Sum.elim_inl, Sum.elim_inr, ↓wq_f0b, ↓wq_f1b, ↓wq_f2b, ↓wq_r0b, ↓wq_r1b, ↓Option.bind_some, i1]
          have h2 : xf_rf_item (A 73) (A 66) (A 67) (A 70) (A 71) (A 72) N (S 57 0) (Int32.ofNat (a p)) (Int32.ofNat k) (Int32.ofNat j) = some (Int32.ofNat 0, Int32.ofNat 1) := by
            simp (disch := omega) only [↓xf_rf_item_85_s, ↓xf_rf_item_80_s, ↓xf_rf_item_57_s, ↓xf_rf_item_56_s, ↓xf_rf_item_s, e2, ↓wq_b e2, wq_f1, wq_ltT, wq_ltF, wq_inT, wq_clamp, wq_eqF, wq_eqm, wq_meq, wq_add, wq_mul, wq_subT, eq_self, Bool.false_eq_true, ↓reduceIte, Option.bind_some, Sum.elim_inl, Sum.elim_inr, ↓wq_f0b, ↓wq_f1b, ↓wq_f2b, ↓wq_r0b, ↓wq_r1b, ↓Option.bind_some, f4, w5]
          exact ⟨_, _, h1, h2, ⟨rfl, fun h => absurd h wq_ne1⟩, wi_out hI⟩
  · have h1 : xf_la_item (A 23) (S 15 1) (A 16) (A 19) (A 18) (A 20) (A 22) (S 15 2) (A 21) 1 N (L 77) x y v = some (Int32.ofNat 1, L 77) := by
      simp (disch := omega) only [↓xf_la_item_s, ↓xf_xt_item_30_s, ↓xf_xt_item_29_s, ↓xf_xt_item_s, ↓xf_xt_refuseUnless_s, e1, ↓wq_b e1, wq_ltT, wq_ltF, wq_inT, wq_clamp, wq_eqF, wq_eqm, wq_meq, wq_add, wq_mul, wq_subT, eq_self, Bool.false_eq_true, ↓reduceIte, Option.bind_some, Sum.elim_inl, Sum.elim_inr, ↓wq_f0b, ↓wq_f1b, ↓wq_f2b, ↓wq_r0b, ↓wq_r1b, ↓Option.bind_some]
    have h2 : xf_rf_item (A 73) (A 66) (A 67) (A 70) (A 71) (A 72) N (S 57 0) x y v = some (Int32.ofNat 0, Int32.ofNat 1) := by
      simp (disch := omega) only [↓xf_rf_item_85_s, ↓xf_rf_item_80_s, ↓xf_rf_item_57_s, ↓xf_rf_item_56_s, ↓xf_rf_item_s, e2, ↓wq_b e2, wq_f1, wq_ltT, wq_ltF, wq_inT, wq_clamp, wq_eqF, wq_eqm, wq_meq, wq_add, wq_mul, wq_subT, eq_self, Bool.false_eq_true, ↓reduceIte, Option.bind_some, Sum.elim_inl, Sum.elim_inr, ↓wq_f0b, ↓wq_f1b, ↓wq_f2b, ↓wq_r0b, ↓wq_r1b, ↓Option.bind_some]
    exact ⟨_, _, h1, h2, ⟨rfl, fun h => absurd h wq_ne1⟩, wi_out hI⟩
