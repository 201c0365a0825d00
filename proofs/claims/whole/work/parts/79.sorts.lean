/-! SCHEMA: the sorts of a kind. -/
theorem wk_sortOf : ∀ c : Fin 127, xf_rf_sortOf (Int32.ofNat c.1) = some (xr_ix (Int32.ofNat c.1)) := by decide +kernel
theorem wk_ix : ∀ c : Fin 127, xr_ix (Int32.ofNat c.1) = -1 ∨ ∃ g : Fin 6, xr_ix (Int32.ofNat c.1) = Int32.ofNat g.1 ∧ wt_lt c.1 = true := by decide +kernel
/-- the first k sorts of kind K -/
def wk_D (K k : Nat) (may size sort kmay ksorts : Nat → Int32) : Prop :=
  size K = Int32.ofNat k ∧ ∀ j, j < k → (∃ g, g ≤ 5 ∧ ksorts (96 + (8 * K + j)) = Int32.ofNat g) ∧ sort (K * 8 + j) = ksorts (96 + (8 * K + j)) ∧ may (K * 8 + j) = kmay (96 + (8 * K + j)) ∧ (kmay (96 + (8 * K + j)) = Int32.ofNat 0 ∨ kmay (96 + (8 * K + j)) = Int32.ofNat 1)
/-- nothing else is changed -/
def wk_F (K : Nat) (may size sort kmay ksorts may' size' sort' kmay' ksorts' : Nat → Int32) : Prop :=
  (∀ x, x ≠ K → size' x = size x) ∧ (∀ x, x < K * 8 ∨ K * 8 + 8 ≤ x → may' x = may x ∧ sort' x = sort x) ∧ (∀ x, x < 96 + 8 * K ∨ 96 + 8 * K + 8 ≤ x → kmay' x = kmay x ∧ ksorts' x = ksorts x)
section
variable {E T : Nat} {ch : Nat → Nat} {signs text : Nat → Int32} {b st : Nat → Nat} {o : Nat → Bool} {begin_ end_ first digits : Nat → Int32}
theorem wk_sorts (hX : wt_X E ch signs text) (hK : wt_Tok ch E true T b st o begin_ end_ first digits) {N : Nat} (hN : 1300 ≤ N) {K : Nat} (hK12 : K < 12) (from_ : Int32) (kletters knames kparts kinds : Nat → Int32) (name : Nat → Int64) (may0 size0 sort0 kmay0 ksorts0 : Nat → Int32) :
    ∀ l k i p al M1 M2 (may size sort kmay ksorts : Nat → Int32), k + l = 8 → i ≤ T → st i ≤ p → p ≤ b i → o i = true → (al = 0 ∨ al = 1) → (k = 0 → al = 1) → (0 < k → wt_a ch T b i ≠ 59) → (al = 0 → wt_a ch T b i ≠ 63) → l < M1 → 3 * l + 3 < M2 → wk_D K k may size sort kmay ksorts → wk_F K may0 size0 sort0 kmay0 ksorts0 may size sort kmay ksorts →
    ∃ (may' size' sort' kmay' ksorts' : Nat → Int32) (i' w' : Nat) (at' : Int32), i' ≤ T ∧ wk_F K may0 size0 sort0 kmay0 ksorts0 may' size' sort' kmay' ksorts' ∧
      ((∃ p', 1 ≤ w' ∧ w' ≤ 8 ∧ wk_D K w' may' size' sort' kmay' ksorts' ∧ i < i' ∧ o i' = false ∧ st i' ≤ p' ∧ p' ≤ b i' ∧ at' = Int32.ofNat p' ∧
          xf_sr_readKind_71 begin_ end_ first (Int32.ofNat E) signs (Int32.ofNat T) N M1 may name size sort (Int32.ofNat (K + 1)) (Int32.ofNat i) (Int32.ofNat k) = some (Int32.ofNat 1, may', name, size', sort', Int32.ofNat (K + 1), Int32.ofNat i') ∧
          xf_rf_kind_126 (Int32.ofNat E) text N M2 (Int32.ofNat p) (-1) from_ kletters kmay knames kparts ksorts kinds (Int32.ofNat (12 + K)) (Int32.ofNat k) (Int32.ofNat 1) (Int32.ofNat al) = some ((), at', -1, from_, kletters, kmay', knames, upd kparts (12 + K) (Int32.ofNat w'), ksorts', upd kinds 1 (kinds 1 + Int32.ofNat 1))) ∨
       (xf_sr_readKind_71 begin_ end_ first (Int32.ofNat E) signs (Int32.ofNat T) N M1 may name size sort (Int32.ofNat (K + 1)) (Int32.ofNat i) (Int32.ofNat k) = some (Int32.ofNat 0, may', name, size', sort', Int32.ofNat (K + 1), Int32.ofNat i') ∧
          xf_rf_kind_126 (Int32.ofNat E) text N M2 (Int32.ofNat p) (-1) from_ kletters kmay knames kparts ksorts kinds (Int32.ofNat (12 + K)) (Int32.ofNat k) (Int32.ofNat 1) (Int32.ofNat al) = some ((), at', Int32.ofNat (b i'), from_, kletters, kmay', knames, upd kparts (12 + K) (Int32.ofNat w'), ksorts', upd kinds 1 (kinds 1 + Int32.ofNat 1)))) := by
  have hE := hX.1
  have hTE := hK.2.1
  have m1 : ((-1 : Int32) = -1) = True := eq_true rfl
  have nb0 : vp_nar .boolean (Int32.ofNat 0) = Int32.ofNat 0 := by decide
  have nb1 : vp_nar .boolean (Int32.ofNat 1) = Int32.ofNat 1 := by decide
  intro l
  induction l with
  | zero =>
    intro k i p al M1 M2 may size sort kmay ksorts hk hi hs hp hoi hal hk0 hk1 ha0 hM1 hM2 hD hF
    obtain ⟨M1, rfl⟩ : ∃ M, M1 = M + 1 := ⟨M1 - 1, by omega⟩
    obtain ⟨M2, rfl⟩ : ∃ M, M2 = M + 1 + 1 := ⟨M2 - 2, by omega⟩
    have e8 : k = 8 := by omega
    subst e8
    have hb := wt_b_le hK hi
    have pk := wt_peek hX hK hN hi hs hp
    have ab := wt_a_lt hX hK i
    have a59 := hk1 (by omega)
    refine ⟨may, size, sort, kmay, ksorts, i, 8, Int32.ofNat (b i + 1), hi, hF, Or.inr ⟨?_, ?_⟩⟩
    · simp (disch := omega) only [↓xf_sr_readKind_71_s, wq_ltT, wq_ltF, wq_inT, wq_clamp, wq_eqF, wq_eqm, wq_meq, wq_add, wq_mul, wq_subT, eq_self, Bool.false_eq_true, ↓reduceIte, Option.bind_some, Sum.elim_inl, Sum.elim_inr, ↓wq_f0b, ↓wq_f1b, ↓wq_f2b, ↓wq_r0b, ↓wq_r1b, ↓Option.bind_some]
    · rcases hal with rfl | rfl
      · have a63 := ha0 rfl
        simp (disch := omega) only [↓xf_rf_kind_126_s, ↓xf_rf_kind_160_s, ↓xf_rf_kind_192_s, ↓xf_rf_kind_207_s, ↓xf_rf_kind_252_s, ↓xf_rf_kind_265_s, ↓xf_rf_wrongAt_13_s, ↓xf_rf_wrongAt_s, wq_ltT, wq_ltF, wq_inT, wq_clamp, wq_eqF, wq_eqm, wq_meq, wq_add, wq_mul, wq_subT, eq_self, Bool.false_eq_true, ↓reduceIte, Option.bind_some, Sum.elim_inl, Sum.elim_inr, ↓wq_f0b, ↓wq_f1b, ↓wq_f2b, ↓wq_r0b, ↓wq_r1b, ↓Option.bind_some, m1, ↓wq_b pk]
      · simp (disch := omega) only [↓xf_rf_kind_126_s, ↓xf_rf_kind_160_s, ↓xf_rf_kind_192_s, ↓xf_rf_kind_207_s, ↓xf_rf_kind_252_s, ↓xf_rf_kind_265_s, ↓xf_rf_wrongAt_13_s, ↓xf_rf_wrongAt_s, wq_ltT, wq_ltF, wq_inT, wq_clamp, wq_eqF, wq_eqm, wq_meq, wq_add, wq_mul, wq_subT, eq_self, Bool.false_eq_true, ↓reduceIte, Option.bind_some, Sum.elim_inl, Sum.elim_inr, ↓wq_f0b, ↓wq_f1b, ↓wq_f2b, ↓wq_r0b, ↓wq_r1b, ↓Option.bind_some, m1, ↓wq_b pk]
  | succ l ih =>
    intro k i p al M1 M2 may size sort kmay ksorts hk hi hs hp hoi hal hk0 hk1 ha0 hM1 hM2 hD hF
    obtain ⟨M1, rfl⟩ : ∃ M, M1 = M + 1 := ⟨M1 - 1, by omega⟩
    obtain ⟨M2, rfl⟩ : ∃ M, M2 = M + 1 + 1 + 1 := ⟨M2 - 3, by omega⟩
    have hb := wt_b_le hK hi
    have pk := wt_peek hX hK hN hi hs hp
    have ab := wt_a_lt hX hK i
    have ah := wt_ahead hX hK hi
    have so : xf_rf_sortOf (Int32.ofNat (wt_a ch T b i)) = some (xr_ix (Int32.ofNat (wt_a ch T b i))) := wk_sortOf ⟨wt_a ch T b i, by omega⟩
    have ix : xr_ix (Int32.ofNat (wt_a ch T b i)) = -1 ∨ ∃ g : Fin 6, xr_ix (Int32.ofNat (wt_a ch T b i)) = Int32.ofNat g.1 ∧ wt_lt (wt_a ch T b i) = true := wk_ix ⟨wt_a ch T b i, by omega⟩
    obtain ⟨d1, d2⟩ := id hD
    obtain ⟨F1, F2, F3⟩ := id hF
    -- the way to the sort in the reference
    have way : ∀ Mx, xf_rf_kind_126 (Int32.ofNat E) text N (Mx + 1) (Int32.ofNat p) (-1) from_ kletters kmay knames kparts ksorts kinds (Int32.ofNat (12 + K)) (Int32.ofNat k) (Int32.ofNat 1) (Int32.ofNat al) = xf_rf_kind_192 (Int32.ofNat E) text (xf_rf_kind_126 (Int32.ofNat E) text N Mx) N (Int32.ofNat (b i)) (-1) from_ kletters kmay knames kparts ksorts kinds (Int32.ofNat (12 + K)) (Int32.ofNat k) (Int32.ofNat 1) (Int32.ofNat al) (Int32.ofNat (wt_a ch T b i)) := by
      intro Mx
      rw [xf_rf_kind_126_s]
      by_cases k0 : k = 0
      · subst k0
        have := hk0 rfl
        subst this
        simp (disch := omega) only [↓xf_rf_kind_160_s, wq_ltT, wq_ltF, wq_inT, wq_clamp, wq_eqF, wq_eqm, wq_meq, wq_add, wq_mul, wq_subT, eq_self, Bool.false_eq_true, ↓reduceIte, Option.bind_some, Sum.elim_inl, Sum.elim_inr, ↓wq_f0b, ↓wq_f1b, ↓wq_f2b, ↓wq_r0b, ↓wq_r1b, ↓Option.bind_some, m1, ↓wq_b pk]
      · have a59 := hk1 (by omega)
        rcases hal with rfl | rfl
        · have a63 := ha0 rfl
          simp (disch := omega) only [↓xf_rf_kind_160_s, wq_ltT, wq_ltF, wq_inT, wq_clamp, wq_eqF, wq_eqm, wq_meq, wq_add, wq_mul, wq_subT, eq_self, Bool.false_eq_true, ↓reduceIte, Option.bind_some, Sum.elim_inl, Sum.elim_inr, ↓wq_f0b, ↓wq_f1b, ↓wq_f2b, ↓wq_r0b, ↓wq_r1b, ↓Option.bind_some, m1, ↓wq_b pk]
        · simp (disch := omega) only [↓xf_rf_kind_160_s, wq_ltT, wq_ltF, wq_inT, wq_clamp, wq_eqF, wq_eqm, wq_meq, wq_add, wq_mul, wq_subT, eq_self, Bool.false_eq_true, ↓reduceIte, Option.bind_some, Sum.elim_inl, Sum.elim_inr, ↓wq_f0b, ↓wq_f1b, ↓wq_f2b, ↓wq_r0b, ↓wq_r1b, ↓Option.bind_some, m1, ↓wq_b pk]
    rcases ix with ix | ⟨g, ix, hl⟩
    · refine ⟨may, size, sort, kmay, ksorts, i, k, Int32.ofNat (b i + 1), hi, hF, Or.inr ⟨?_, ?_⟩⟩
      · simp (disch := omega) only [↓xf_sr_readKind_71_s, wq_ltT, wq_ltF, wq_inT, wq_clamp, wq_eqF, wq_eqm, wq_meq, wq_add, wq_mul, wq_subT, eq_self, Bool.false_eq_true, ↓reduceIte, Option.bind_some, Sum.elim_inl, Sum.elim_inr, ↓wq_f0b, ↓wq_f1b, ↓wq_f2b, ↓wq_r0b, ↓wq_r1b, ↓Option.bind_some, ↓wq_b ah, ix]
      · rw [ix] at so
        rw [way]
        simp (disch := omega) only [↓xf_rf_kind_192_s, ↓wq_b so, ↓xf_rf_kind_207_s, ↓xf_rf_kind_252_s, ↓xf_rf_wrongAt_13_s, ↓xf_rf_wrongAt_s, wq_ltT, wq_ltF, wq_inT, wq_clamp, wq_eqF, wq_eqm, wq_meq, wq_add, wq_mul, wq_subT, eq_self, Bool.false_eq_true, ↓reduceIte, Option.bind_some, Sum.elim_inl, Sum.elim_inr, ↓wq_f0b, ↓wq_f1b, ↓wq_f2b, ↓wq_r0b, ↓wq_r1b, ↓Option.bind_some, m1]
        simp (disch := omega) only [↓xf_rf_kind_126_s, ↓xf_rf_kind_265_s, wq_ltT, wq_ltF, wq_inT, wq_clamp, wq_eqF, wq_eqm, wq_meq, wq_add, wq_mul, wq_subT, eq_self, Bool.false_eq_true, ↓reduceIte, Option.bind_some, Sum.elim_inl, Sum.elim_inr, ↓wq_f0b, ↓wq_f1b, ↓wq_f2b, ↓wq_r0b, ↓wq_r1b, ↓Option.bind_some]
    · -- a sort
      have g5 : g.1 ≤ 5 := by omega
      have hiT : i < T := by
        apply Classical.byContradiction
        intro hc
        have e : wt_a ch T b i = 0 := if_neg hc
        rw [e] at hl
        exact absurd hl (by decide)
      have ea : wt_a ch T b i = ch (b i) := if_pos hiT
      obtain ⟨q1, q2, q3, q4, q5, q6, _⟩ := hK.1.2 i hiT
      have lr := wt_lt_iff.mp hl
      have nx : st (i + 1) = b i + 1 := by
        rw [q5]
        unfold wt_e
        rw [if_pos ⟨hoi, by rw [← ea]; exact hl⟩]
        rfl
      have oi1 : o (i + 1) = true := by
        rw [q6, hoi]
        unfold wt_so
        rw [if_neg (by omega), decide_eq_false (by omega)]
        rfl
      have hb1 := wt_st_le hK (i := i + 1) (by omega)
      have tq := wt_takes hX hK (i := i + 1) (c := 63) (by omega) (by omega) (by omega)
      rw [ix] at so
      have i96 : 8 * (12 + K) + k = 96 + (8 * K + k) := by omega
      -- the reference has the sort
      have rs : ∀ Mx, xf_rf_kind_126 (Int32.ofNat E) text N (Mx + 1) (Int32.ofNat p) (-1) from_ kletters kmay knames kparts ksorts kinds (Int32.ofNat (12 + K)) (Int32.ofNat k) (Int32.ofNat 1) (Int32.ofNat al) = xf_rf_kind_126 (Int32.ofNat E) text N Mx (Int32.ofNat (b i + 1)) (-1) from_ kletters (upd kmay (96 + (8 * K + k)) (Int32.ofNat 0)) knames kparts (upd ksorts (96 + (8 * K + k)) (Int32.ofNat g.1)) kinds (Int32.ofNat (12 + K)) (Int32.ofNat (k + 1)) (Int32.ofNat 1) (Int32.ofNat 0) := by
        intro Mx
        rw [way, xf_rf_kind_192_s]
        simp (disch := omega) only [↓wq_b so, ↓xf_rf_kind_252_s, wq_ltT, wq_ltF, wq_inT, wq_clamp, wq_eqF, wq_eqm, wq_meq, wq_add, wq_mul, wq_subT, eq_self, Bool.false_eq_true, ↓reduceIte, Option.bind_some, Sum.elim_inl, Sum.elim_inr, ↓wq_f0b, ↓wq_f1b, ↓wq_f2b, ↓wq_r0b, ↓wq_r1b, ↓Option.bind_some, nb0, i96]
      -- the class adds it
      have ad : ∀ x, x = Int32.ofNat 0 ∨ x = Int32.ofNat 1 → xf_kd_addSort (Int32.ofNat (K + 1)) may size sort (Int32.ofNat g.1) x = some ((), upd may (K * 8 + k) x, upd size K (Int32.ofNat (k + 1)), upd sort (K * 8 + k) (Int32.ofNat g.1)) := by
        intro x hx
        have nbx : vp_nar .boolean x = x := by
          rcases hx with rfl | rfl
          · exact nb0
          · exact nb1
        simp (disch := omega) only [↓xf_kd_addSort_61_s, ↓xf_kd_addSort_s, wq_ltT, wq_ltF, wq_inT, wq_clamp, wq_eqF, wq_eqm, wq_meq, wq_add, wq_mul, wq_subT, eq_self, Bool.false_eq_true, ↓reduceIte, Option.bind_some, Sum.elim_inl, Sum.elim_inr, ↓wq_f0b, ↓wq_f1b, ↓wq_f2b, ↓wq_r0b, ↓wq_r1b, ↓Option.bind_some, Nat.add_sub_cancel, d1, nbx]
      have hD1 : ∀ x, x = Int32.ofNat 0 ∨ x = Int32.ofNat 1 → ∀ km : Nat → Int32, km (96 + (8 * K + k)) = x → (∀ y, y ≠ 96 + (8 * K + k) → km y = kmay y) → wk_D K (k + 1) (upd may (K * 8 + k) x) (upd size K (Int32.ofNat (k + 1))) (upd sort (K * 8 + k) (Int32.ofNat g.1)) km (upd ksorts (96 + (8 * K + k)) (Int32.ofNat g.1)) := by
        intro x hx km hkm1 hkm2
        refine ⟨wq_upd1, fun j hj => ?_⟩
        by_cases e : j = k
        · subst e
          rw [wq_upd1, wq_upd1, wq_upd1, hkm1]
          exact ⟨⟨g.1, g5, rfl⟩, rfl, rfl, hx⟩
        · rw [wq_upd2 (by omega), wq_upd2 (by omega), wq_upd2 (by omega), hkm2 _ (by omega)]
          exact d2 j (by omega)
      have hF1 : ∀ x, ∀ km : Nat → Int32, (∀ y, y ≠ 96 + (8 * K + k) → km y = kmay y) → wk_F K may0 size0 sort0 kmay0 ksorts0 (upd may (K * 8 + k) x) (upd size K (Int32.ofNat (k + 1))) (upd sort (K * 8 + k) (Int32.ofNat g.1)) km (upd ksorts (96 + (8 * K + k)) (Int32.ofNat g.1)) := by
        intro x km hkm
        refine ⟨fun y hy => ?_, fun y hy => ?_, fun y hy => ?_⟩
        · rw [wq_upd2 hy]
          exact F1 y hy
        · rw [wq_upd2 (by omega), wq_upd2 (by omega)]
          exact F2 y hy
        · rw [wq_upd2 (by omega), hkm y (by omega)]
          exact F3 y hy
      by_cases h63 : wt_a ch T b (i + 1) = 63
      · -- with a question mark
        rw [if_pos h63] at tq
        have hiT1 : i + 1 < T := by
          apply Classical.byContradiction
          intro hc
          have e : wt_a ch T b (i + 1) = 0 := if_neg hc
          omega
        have ea1 : wt_a ch T b (i + 1) = ch (b (i + 1)) := if_pos hiT1
        have l1 : ¬ wt_lt (ch (b (i + 1))) = true := fun hh => by
          have := wt_lt_iff.mp hh
          omega
        have dd1 : ¬ wt_dg (ch (b (i + 1))) = true := fun hh => by
          have := wt_dg_iff.mp hh
          omega
        have nx1 : st (i + 2) = b (i + 1) + 1 := wt_single hK hiT1 l1 dd1 (by omega)
        have oi2 : o (i + 2) = true := by
          rw [(hK.1.2 (i + 1) hiT1).2.2.2.2.2.1, oi1]
          unfold wt_so
          rw [if_neg (by omega), decide_eq_false (by omega)]
          rfl
        have hb2 := wt_st_le hK (i := i + 2) (by omega)
        have pk1 := wt_peek hX hK hN (i := i + 1) (p := b i + 1) (by omega) (by omega) (by omega)
        rw [h63] at pk1
        have hbE1 := wt_b_le hK (i := i + 1) (by omega)
        have rs2 : ∀ Mx, xf_rf_kind_126 (Int32.ofNat E) text N (Mx + 1 + 1) (Int32.ofNat p) (-1) from_ kletters kmay knames kparts ksorts kinds (Int32.ofNat (12 + K)) (Int32.ofNat k) (Int32.ofNat 1) (Int32.ofNat al) = xf_rf_kind_126 (Int32.ofNat E) text N Mx (Int32.ofNat (b (i + 1) + 1)) (-1) from_ kletters (upd (upd kmay (96 + (8 * K + k)) (Int32.ofNat 0)) (96 + (8 * K + k)) (Int32.ofNat 1)) knames kparts (upd ksorts (96 + (8 * K + k)) (Int32.ofNat g.1)) kinds (Int32.ofNat (12 + K)) (Int32.ofNat (k + 1)) (Int32.ofNat 1) (Int32.ofNat 1) := by
          intro Mx
          have i96' : 8 * (12 + K) + (k + 1) - 1 = 96 + (8 * K + k) := by omega
          rw [rs, xf_rf_kind_126_s]
          simp (disch := omega) only [↓xf_rf_kind_160_s, ↓xf_rf_kind_252_s, wq_ltT, wq_ltF, wq_inT, wq_clamp, wq_eqF, wq_eqm, wq_meq, wq_add, wq_mul, wq_subT, eq_self, Bool.false_eq_true, ↓reduceIte, Option.bind_some, Sum.elim_inl, Sum.elim_inr, ↓wq_f0b, ↓wq_f1b, ↓wq_f2b, ↓wq_r0b, ↓wq_r1b, ↓Option.bind_some, m1, ↓wq_b pk1, nb1, i96']
        have km1 : upd (upd kmay (96 + (8 * K + k)) (Int32.ofNat 0)) (96 + (8 * K + k)) (Int32.ofNat 1) (96 + (8 * K + k)) = Int32.ofNat 1 := wq_upd1
        have km2 : ∀ y, y ≠ 96 + (8 * K + k) → upd (upd kmay (96 + (8 * K + k)) (Int32.ofNat 0)) (96 + (8 * K + k)) (Int32.ofNat 1) y = kmay y := fun y hy => by rw [wq_upd2 hy, wq_upd2 hy]
        have ts := wt_takes hX hK (i := i + 2) (c := 59) (by omega) (by omega) (by omega)
        have ad1 := ad (Int32.ofNat 1) (Or.inr rfl)
        by_cases h59 : wt_a ch T b (i + 2) = 59
        · rw [if_pos h59] at ts
          have hiT2 : i + 2 < T := by
            apply Classical.byContradiction
            intro hc
            have e : wt_a ch T b (i + 2) = 0 := if_neg hc
            omega
          have ea2 : wt_a ch T b (i + 2) = ch (b (i + 2)) := if_pos hiT2
          have l2 : ¬ wt_lt (ch (b (i + 2))) = true := fun hh => by
            have := wt_lt_iff.mp hh
            omega
          have dd2 : ¬ wt_dg (ch (b (i + 2))) = true := fun hh => by
            have := wt_dg_iff.mp hh
            omega
          have nx2 : st (i + 3) = b (i + 2) + 1 := wt_single hK hiT2 l2 dd2 (by omega)
          have oi3 : o (i + 3) = false := by
            rw [(hK.1.2 (i + 2) hiT2).2.2.2.2.2.1, oi2]
            unfold wt_so
            rw [if_neg (by omega), decide_eq_true (by omega)]
            rfl
          have hb3 := wt_st_le hK (i := i + 3) (by omega)
          have pk2 := wt_peek hX hK hN (i := i + 2) (p := b (i + 1) + 1) (by omega) (by omega) (by omega)
          rw [h59] at pk2
          have hbE2 := wt_b_le hK (i := i + 2) (by omega)
          refine ⟨upd may (K * 8 + k) (Int32.ofNat 1), upd size K (Int32.ofNat (k + 1)), upd sort (K * 8 + k) (Int32.ofNat g.1), _, upd ksorts (96 + (8 * K + k)) (Int32.ofNat g.1), i + 3, k + 1, Int32.ofNat (b (i + 2) + 1), by omega, hF1 _ _ km2, Or.inl ⟨b (i + 2) + 1, by omega, by omega, hD1 _ (Or.inr rfl) _ km1 km2, by omega, oi3, by omega, by omega, rfl, ?_, ?_⟩⟩
          · simp (disch := omega) only [↓xf_sr_readKind_71_s, wq_ltT, wq_ltF, wq_inT, wq_clamp, wq_eqF, wq_eqm, wq_meq, wq_add, wq_mul, wq_subT, eq_self, Bool.false_eq_true, ↓reduceIte, Option.bind_some, Sum.elim_inl, Sum.elim_inr, ↓wq_f0b, ↓wq_f1b, ↓wq_f2b, ↓wq_r0b, ↓wq_r1b, ↓Option.bind_some, ↓wq_b ah, ix, ↓xf_wd_step_s, ↓wq_b tq, ↓wq_b ad1, ↓wq_b ts]
          · obtain ⟨M3, rfl⟩ : ∃ M, M2 = M + 1 := ⟨M2 - 1, by omega⟩
            rw [rs2, xf_rf_kind_126_s]
            simp (disch := omega) only [↓xf_rf_kind_252_s, wq_ltT, wq_ltF, wq_inT, wq_clamp, wq_eqF, wq_eqm, wq_meq, wq_add, wq_mul, wq_subT, eq_self, Bool.false_eq_true, ↓reduceIte, Option.bind_some, Sum.elim_inl, Sum.elim_inr, ↓wq_f0b, ↓wq_f1b, ↓wq_f2b, ↓wq_r0b, ↓wq_r1b, ↓Option.bind_some, m1, ↓wq_b pk2]
            simp (disch := omega) only [↓xf_rf_kind_126_s, ↓xf_rf_kind_265_s, wq_ltT, wq_ltF, wq_inT, wq_clamp, wq_eqF, wq_eqm, wq_meq, wq_add, wq_mul, wq_subT, eq_self, Bool.false_eq_true, ↓reduceIte, Option.bind_some, Sum.elim_inl, Sum.elim_inr, ↓wq_f0b, ↓wq_f1b, ↓wq_f2b, ↓wq_r0b, ↓wq_r1b, ↓Option.bind_some]
        · rw [if_neg h59] at ts
          obtain ⟨may', size', sort', kmay', ksorts', i', w', at', r1, r2, r3⟩ := ih (k + 1) (i + 2) (b (i + 1) + 1) 1 M1 (M2 + 1) (upd may (K * 8 + k) (Int32.ofNat 1)) (upd size K (Int32.ofNat (k + 1))) (upd sort (K * 8 + k) (Int32.ofNat g.1)) _ (upd ksorts (96 + (8 * K + k)) (Int32.ofNat g.1)) (by omega) (by omega) (by omega) (by omega) oi2 (Or.inr rfl) (fun _ => rfl) (fun _ => h59) (fun hh => absurd hh (by omega)) (by omega) (by omega) (hD1 _ (Or.inr rfl) _ km1 km2) (hF1 _ _ km2)
          have cstep : xf_sr_readKind_71 begin_ end_ first (Int32.ofNat E) signs (Int32.ofNat T) N (M1 + 1) may name size sort (Int32.ofNat (K + 1)) (Int32.ofNat i) (Int32.ofNat k) = xf_sr_readKind_71 begin_ end_ first (Int32.ofNat E) signs (Int32.ofNat T) N M1 (upd may (K * 8 + k) (Int32.ofNat 1)) name (upd size K (Int32.ofNat (k + 1))) (upd sort (K * 8 + k) (Int32.ofNat g.1)) (Int32.ofNat (K + 1)) (Int32.ofNat (i + 2)) (Int32.ofNat (k + 1)) := by
            rw [xf_sr_readKind_71_s]
            simp (disch := omega) only [wq_ltT, wq_ltF, wq_inT, wq_clamp, wq_eqF, wq_eqm, wq_meq, wq_add, wq_mul, wq_subT, eq_self, Bool.false_eq_true, ↓reduceIte, Option.bind_some, Sum.elim_inl, Sum.elim_inr, ↓wq_f0b, ↓wq_f1b, ↓wq_f2b, ↓wq_r0b, ↓wq_r1b, ↓Option.bind_some, ↓wq_b ah, ix, ↓xf_wd_step_s, ↓wq_b tq, ↓wq_b ad1, ↓wq_b ts]
          rw [cstep, rs2 (M2 + 1)]
          refine ⟨may', size', sort', kmay', ksorts', i', w', at', r1, r2, ?_⟩
          rcases r3 with ⟨p', a1, a2, a3, a4, a5⟩ | r3
          · exact Or.inl ⟨p', a1, a2, a3, by omega, a5⟩
          · exact Or.inr r3
      · rw [if_neg h63] at tq
        have km1 : upd kmay (96 + (8 * K + k)) (Int32.ofNat 0) (96 + (8 * K + k)) = Int32.ofNat 0 := wq_upd1
        have km2 : ∀ y, y ≠ 96 + (8 * K + k) → upd kmay (96 + (8 * K + k)) (Int32.ofNat 0) y = kmay y := fun y hy => wq_upd2 hy
        have ts := wt_takes hX hK (i := i + 1) (c := 59) (by omega) (by omega) (by omega)
        have ad0 := ad (Int32.ofNat 0) (Or.inl rfl)
        by_cases h59 : wt_a ch T b (i + 1) = 59
        · rw [if_pos h59] at ts
          have hiT2 : i + 1 < T := by
            apply Classical.byContradiction
            intro hc
            have e : wt_a ch T b (i + 1) = 0 := if_neg hc
            omega
          have ea2 : wt_a ch T b (i + 1) = ch (b (i + 1)) := if_pos hiT2
          have l2 : ¬ wt_lt (ch (b (i + 1))) = true := fun hh => by
            have := wt_lt_iff.mp hh
            omega
          have dd2 : ¬ wt_dg (ch (b (i + 1))) = true := fun hh => by
            have := wt_dg_iff.mp hh
            omega
          have nx2 : st (i + 2) = b (i + 1) + 1 := wt_single hK hiT2 l2 dd2 (by omega)
          have oi3 : o (i + 2) = false := by
            rw [(hK.1.2 (i + 1) hiT2).2.2.2.2.2.1, oi1]
            unfold wt_so
            rw [if_neg (by omega), decide_eq_true (by omega)]
            rfl
          have hb3 := wt_st_le hK (i := i + 2) (by omega)
          have pk2 := wt_peek hX hK hN (i := i + 1) (p := b i + 1) (by omega) (by omega) (by omega)
          rw [h59] at pk2
          have hbE2 := wt_b_le hK (i := i + 1) (by omega)
          refine ⟨upd may (K * 8 + k) (Int32.ofNat 0), upd size K (Int32.ofNat (k + 1)), upd sort (K * 8 + k) (Int32.ofNat g.1), _, upd ksorts (96 + (8 * K + k)) (Int32.ofNat g.1), i + 2, k + 1, Int32.ofNat (b (i + 1) + 1), by omega, hF1 _ _ km2, Or.inl ⟨b (i + 1) + 1, by omega, by omega, hD1 _ (Or.inl rfl) _ km1 km2, by omega, oi3, by omega, by omega, rfl, ?_, ?_⟩⟩
          · simp (disch := omega) only [↓xf_sr_readKind_71_s, wq_ltT, wq_ltF, wq_inT, wq_clamp, wq_eqF, wq_eqm, wq_meq, wq_add, wq_mul, wq_subT, eq_self, Bool.false_eq_true, ↓reduceIte, Option.bind_some, Sum.elim_inl, Sum.elim_inr, ↓wq_f0b, ↓wq_f1b, ↓wq_f2b, ↓wq_r0b, ↓wq_r1b, ↓Option.bind_some, ↓wq_b ah, ix, ↓xf_wd_step_s, ↓wq_b tq, ↓wq_b ad0, ↓wq_b ts]
          · rw [rs, xf_rf_kind_126_s]
            simp (disch := omega) only [↓xf_rf_kind_252_s, wq_ltT, wq_ltF, wq_inT, wq_clamp, wq_eqF, wq_eqm, wq_meq, wq_add, wq_mul, wq_subT, eq_self, Bool.false_eq_true, ↓reduceIte, Option.bind_some, Sum.elim_inl, Sum.elim_inr, ↓wq_f0b, ↓wq_f1b, ↓wq_f2b, ↓wq_r0b, ↓wq_r1b, ↓Option.bind_some, m1, ↓wq_b pk2]
            simp (disch := omega) only [↓xf_rf_kind_126_s, ↓xf_rf_kind_265_s, wq_ltT, wq_ltF, wq_inT, wq_clamp, wq_eqF, wq_eqm, wq_meq, wq_add, wq_mul, wq_subT, eq_self, Bool.false_eq_true, ↓reduceIte, Option.bind_some, Sum.elim_inl, Sum.elim_inr, ↓wq_f0b, ↓wq_f1b, ↓wq_f2b, ↓wq_r0b, ↓wq_r1b, ↓Option.bind_some]
        · rw [if_neg h59] at ts
          obtain ⟨may', size', sort', kmay', ksorts', i', w', at', r1, r2, r3⟩ := ih (k + 1) (i + 1) (b i + 1) 0 M1 (M2 + 1 + 1) (upd may (K * 8 + k) (Int32.ofNat 0)) (upd size K (Int32.ofNat (k + 1))) (upd sort (K * 8 + k) (Int32.ofNat g.1)) _ (upd ksorts (96 + (8 * K + k)) (Int32.ofNat g.1)) (by omega) (by omega) (by omega) (by omega) oi1 (Or.inl rfl) (fun hh => absurd hh (by omega)) (fun _ => h59) (fun _ => h63) (by omega) (by omega) (hD1 _ (Or.inl rfl) _ km1 km2) (hF1 _ _ km2)
          have cstep : xf_sr_readKind_71 begin_ end_ first (Int32.ofNat E) signs (Int32.ofNat T) N (M1 + 1) may name size sort (Int32.ofNat (K + 1)) (Int32.ofNat i) (Int32.ofNat k) = xf_sr_readKind_71 begin_ end_ first (Int32.ofNat E) signs (Int32.ofNat T) N M1 (upd may (K * 8 + k) (Int32.ofNat 0)) name (upd size K (Int32.ofNat (k + 1))) (upd sort (K * 8 + k) (Int32.ofNat g.1)) (Int32.ofNat (K + 1)) (Int32.ofNat (i + 1)) (Int32.ofNat (k + 1)) := by
            rw [xf_sr_readKind_71_s]
            simp (disch := omega) only [wq_ltT, wq_ltF, wq_inT, wq_clamp, wq_eqF, wq_eqm, wq_meq, wq_add, wq_mul, wq_subT, eq_self, Bool.false_eq_true, ↓reduceIte, Option.bind_some, Sum.elim_inl, Sum.elim_inr, ↓wq_f0b, ↓wq_f1b, ↓wq_f2b, ↓wq_r0b, ↓wq_r1b, ↓Option.bind_some, ↓wq_b ah, ix, ↓xf_wd_step_s, ↓wq_b tq, ↓wq_b ad0, ↓wq_b ts]
          rw [cstep, rs (M2 + 1 + 1)]
          refine ⟨may', size', sort', kmay', ksorts', i', w', at', r1, r2, ?_⟩
          rcases r3 with ⟨p', a1, a2, a3, a4, a5⟩ | r3
          · exact Or.inl ⟨p', a1, a2, a3, by omega, a5⟩
          · exact Or.inr r3
end
