/-! SCHEMA. -/
section
variable {E T : Nat} {ch : Nat → Nat} {signs text : Nat → Int32} {b st : Nat → Nat} {o : Nat → Bool} {begin_ end_ first digits : Nat → Int32}
theorem wk_N_trans {kl km kn kp ks kd kl' km' kn' kp' ks' kd' kl2 km2 kn2 kp2 ks2 kd2 : Nat → Int32} (h : wk_N kl km kn kp ks kd kl' km' kn' kp' ks' kd') (h2 : wk_N kl' km' kn' kp' ks' kd' kl2 km2 kn2 kp2 ks2 kd2) : wk_N kl km kn kp ks kd kl2 km2 kn2 kp2 ks2 kd2 := by
  obtain ⟨a1, a2, a3⟩ := h
  obtain ⟨b1, b2, b3⟩ := h2
  refine ⟨fun x hx => ⟨(b1 x hx).1.trans (a1 x hx).1, (b1 x hx).2.trans (a1 x hx).2⟩, fun x hx => ⟨(b2 x hx).1.trans (a2 x hx).1, (b2 x hx).2.1.trans (a2 x hx).2.1, (b2 x hx).2.2.trans (a2 x hx).2.2⟩, b3.trans a3⟩
/-- all kinds -/
theorem wk_all (hX : wt_X E ch signs text) (hK : wt_Tok ch E true T b st o begin_ end_ first digits) {N : Nat} (hN : 1300 ≤ N) (size_ th : Int32) :
    ∀ l K i p M1 M2 (y w : Nat → Nat) (name : Nat → Int64) (size sort may kletters knames kparts ksorts kmay kinds : Nat → Int32) (from_ : Int32), K + l = 12 → l + 1 < M1 → l + 2 < M2 → i ≤ T → st i ≤ p → p ≤ b i → o i = false → wk_R K y w (Int32.ofNat K) name size sort may kletters knames kparts ksorts kmay → kinds 1 = Int32.ofNat K →
    ∃ (name' : Nat → Int64) (size' sort' may' kletters' knames' kparts' ksorts' kmay' kinds' : Nat → Int32) (total' at' from' : Int32) (i' : Nat), i' ≤ T ∧ wk_N kletters kmay knames kparts ksorts kinds kletters' kmay' knames' kparts' ksorts' kinds' ∧
      ((∃ K' y' w', wk_R K' y' w' (Int32.ofNat K') name' size' sort' may' kletters' knames' kparts' ksorts' kmay' ∧ kinds' 1 = Int32.ofNat K' ∧ total' = Int32.ofNat K' ∧
          xf_sr_readAll_18 (Int32.ofNat E) signs N M1 may name size sort (Int32.ofNat K) begin_ digits end_ first (Int32.ofNat i) (Int32.ofNat T) (Int32.ofNat K) = some (Int32.ofNat 1, may', name', size', sort', total', begin_, digits, end_, first, Int32.ofNat i', Int32.ofNat T) ∧
          xf_rf_schema_22 text N M2 (Int32.ofNat p) (-1) from_ kletters kmay knames kparts ksorts kinds (Int32.ofNat E) th = xf_rf_schema_73 text N N at' (-1) from' kletters' kmay' knames' kparts' ksorts' (upd kinds' 0 (kinds' 1)) (Int32.ofNat E) th (Int32.ofNat 0)) ∨
       (xf_sr_readAll_18 (Int32.ofNat E) signs N M1 may name size sort (Int32.ofNat K) begin_ digits end_ first (Int32.ofNat i) (Int32.ofNat T) (Int32.ofNat K) = some (Int32.ofNat 0, may', name', size', sort', total', begin_, digits, end_, first, Int32.ofNat i', Int32.ofNat T) ∧
          xf_rf_schema_22 text N M2 (Int32.ofNat p) (-1) from_ kletters kmay knames kparts ksorts kinds (Int32.ofNat E) th = some (-1 - Int32.ofNat (b i'), at', Int32.ofNat (b i'), from', kletters', kmay', knames', kparts', ksorts', kinds', Int32.ofNat E, th))) := by
  have hE := hX.1
  have hTE := hK.2.1
  have m1 : ((-1 : Int32) = -1) = True := eq_true rfl
  intro l
  induction l with
  | zero =>
    intro K i p M1 M2 y w name size sort may kletters knames kparts ksorts kmay kinds from_ hl hM1 hM2 hi hs hp hoi hR hk1
    obtain ⟨M1, rfl⟩ : ∃ M, M1 = M + 1 + 1 := ⟨M1 - 2, by omega⟩
    obtain ⟨M2, rfl⟩ : ∃ M, M2 = M + 1 + 1 := ⟨M2 - 2, by omega⟩
    have hb := wt_b_le hK hi
    have pk := wt_peek hX hK hN hi hs hp
    have mo := wt_more hX hK hi
    have ab := wt_a_lt hX hK i
    by_cases hiT : i < T
    · rw [if_pos hiT] at mo
      have ea : wt_a ch T b i = ch (b i) := if_pos hiT
      have c32 := (hX.2 _ (hK.1.2 i hiT).2.1).2.2
      obtain ⟨name', size', sort', may', kl', kn', kp', ks', km', kd', tot', at', fr', i', s1, s2, s3⟩ := wk_kind (from_ := from_) (kinds := kinds) hX hK hN (K := K) (by omega) hiT hoi hR hk1
      rcases s3 with ⟨h12, _⟩ | ⟨c1, c2⟩
      · omega
      · have hb' := wt_b_le hK s1
        have fne : ¬ Int32.ofNat (b i') = -1 := fun hh => (wq_eqm (by omega)).mp hh
        refine ⟨name', size', sort', may', kl', kn', kp', ks', km', kd', tot', at', fr', i', s1, s2, Or.inr ⟨?_, ?_⟩⟩
        · simp (disch := omega) only [↓xf_sr_readAll_18_s, wq_ltT, wq_ltF, wq_inT, wq_clamp, wq_eqF, wq_eqm, wq_meq, wq_add, wq_mul, wq_subT, eq_self, Bool.false_eq_true, ↓reduceIte, Option.bind_some, Sum.elim_inl, Sum.elim_inr, ↓wq_f0b, ↓wq_f1b, ↓wq_f2b, ↓wq_r0b, ↓wq_r1b, ↓Option.bind_some, ↓wq_b mo, ↓wq_b c1]
        · rw [xf_rf_schema_22_s]
          simp (disch := omega) only [wq_ltT, wq_ltF, wq_inT, wq_clamp, wq_eqF, wq_eqm, wq_meq, wq_add, wq_mul, wq_subT, eq_self, Bool.false_eq_true, ↓reduceIte, Option.bind_some, Sum.elim_inl, Sum.elim_inr, ↓wq_f0b, ↓wq_f1b, ↓wq_f2b, ↓wq_r0b, ↓wq_r1b, ↓Option.bind_some, m1, ↓wq_b pk, ea, ↓wq_b c2]
          simp (disch := omega) only [↓xf_rf_schema_22_s, ↓xf_rf_schema_44_s, wq_ltT, wq_ltF, wq_inT, wq_clamp, wq_eqF, wq_eqm, wq_meq, wq_add, wq_mul, wq_subT, eq_self, Bool.false_eq_true, ↓reduceIte, Option.bind_some, Sum.elim_inl, Sum.elim_inr, ↓wq_f0b, ↓wq_f1b, ↓wq_f2b, ↓wq_r0b, ↓wq_r1b, ↓Option.bind_some, fne]
    · rw [if_neg hiT] at mo
      have ea : wt_a ch T b i = 0 := if_neg hiT
      refine ⟨name, size, sort, may, kletters, knames, kparts, ksorts, kmay, kinds, Int32.ofNat K, Int32.ofNat (b i), from_, i, hi, ⟨fun _ _ => ⟨rfl, rfl⟩, fun _ _ => ⟨rfl, rfl, rfl⟩, rfl⟩, Or.inl ⟨K, y, w, hR, hk1, rfl, ?_, ?_⟩⟩
      · simp (disch := omega) only [↓xf_sr_readAll_18_s, ↓xf_sr_readAll_49_s, wq_ltT, wq_ltF, wq_inT, wq_clamp, wq_eqF, wq_eqm, wq_meq, wq_add, wq_mul, wq_subT, eq_self, Bool.false_eq_true, ↓reduceIte, Option.bind_some, Sum.elim_inl, Sum.elim_inr, ↓wq_f0b, ↓wq_f1b, ↓wq_f2b, ↓wq_r0b, ↓wq_r1b, ↓Option.bind_some, ↓wq_b mo]
      · rw [xf_rf_schema_22_s]
        simp (disch := omega) only [↓xf_rf_schema_44_s, wq_ltT, wq_ltF, wq_inT, wq_clamp, wq_eqF, wq_eqm, wq_meq, wq_add, wq_mul, wq_subT, eq_self, Bool.false_eq_true, ↓reduceIte, Option.bind_some, Sum.elim_inl, Sum.elim_inr, ↓wq_f0b, ↓wq_f1b, ↓wq_f2b, ↓wq_r0b, ↓wq_r1b, ↓Option.bind_some, m1, ↓wq_b pk, ea]
  | succ l ih =>
    intro K i p M1 M2 y w name size sort may kletters knames kparts ksorts kmay kinds from_ hl hM1 hM2 hi hs hp hoi hR hk1
    obtain ⟨M1, rfl⟩ : ∃ M, M1 = M + 1 + 1 := ⟨M1 - 2, by omega⟩
    obtain ⟨M2, rfl⟩ : ∃ M, M2 = M + 1 + 1 := ⟨M2 - 2, by omega⟩
    have hb := wt_b_le hK hi
    have pk := wt_peek hX hK hN hi hs hp
    have mo := wt_more hX hK hi
    have ab := wt_a_lt hX hK i
    by_cases hiT : i < T
    · rw [if_pos hiT] at mo
      have ea : wt_a ch T b i = ch (b i) := if_pos hiT
      have c32 := (hX.2 _ (hK.1.2 i hiT).2.1).2.2
      obtain ⟨name', size', sort', may', kl', kn', kp', ks', km', kd', tot', at', fr', i', s1, s2, s3⟩ := wk_kind (from_ := from_) (kinds := kinds) hX hK hN (K := K) (by omega) hiT hoi hR hk1
      rcases s3 with ⟨h12, hii, hoi', ⟨p', hp1, hp2, hp3⟩, ⟨y', w', hR'⟩, hk1', htot, c1, c2⟩ | ⟨c1, c2⟩
      · obtain ⟨name2, size2, sort2, may2, kl2, kn2, kp2, ks2, km2, kd2, tot2, at2, fr2, i2, u1, u2, u3⟩ := ih (K + 1) i' p' (M1 + 1) (M2 + 1) y' w' name' size' sort' may' kl' kn' kp' ks' km' kd' fr' (by omega) (by omega) (by omega) s1 hp2 hp3 hoi' hR' hk1'
        have cs : xf_sr_readAll_18 (Int32.ofNat E) signs N (M1 + 1 + 1) may name size sort (Int32.ofNat K) begin_ digits end_ first (Int32.ofNat i) (Int32.ofNat T) (Int32.ofNat K) = xf_sr_readAll_18 (Int32.ofNat E) signs N (M1 + 1) may' name' size' sort' (Int32.ofNat (K + 1)) begin_ digits end_ first (Int32.ofNat i') (Int32.ofNat T) (Int32.ofNat (K + 1)) := by
          rw [xf_sr_readAll_18_s]
          rw [htot] at c1
          simp (disch := omega) only [wq_ltT, wq_ltF, wq_inT, wq_clamp, wq_eqF, wq_eqm, wq_meq, wq_add, wq_mul, wq_subT, eq_self, Bool.false_eq_true, ↓reduceIte, Option.bind_some, Sum.elim_inl, Sum.elim_inr, ↓wq_f0b, ↓wq_f1b, ↓wq_f2b, ↓wq_r0b, ↓wq_r1b, ↓Option.bind_some, ↓wq_b mo, ↓wq_b c1]
        have rs : xf_rf_schema_22 text N (M2 + 1 + 1) (Int32.ofNat p) (-1) from_ kletters kmay knames kparts ksorts kinds (Int32.ofNat E) th = xf_rf_schema_22 text N (M2 + 1) (Int32.ofNat p') (-1) fr' kl' km' kn' kp' ks' kd' (Int32.ofNat E) th := by
          rw [xf_rf_schema_22_s]
          rw [hp1] at c2
          simp (disch := omega) only [wq_ltT, wq_ltF, wq_inT, wq_clamp, wq_eqF, wq_eqm, wq_meq, wq_add, wq_mul, wq_subT, eq_self, Bool.false_eq_true, ↓reduceIte, Option.bind_some, Sum.elim_inl, Sum.elim_inr, ↓wq_f0b, ↓wq_f1b, ↓wq_f2b, ↓wq_r0b, ↓wq_r1b, ↓Option.bind_some, m1, ↓wq_b pk, ea, ↓wq_b c2]
        rw [cs, rs]
        exact ⟨name2, size2, sort2, may2, kl2, kn2, kp2, ks2, km2, kd2, tot2, at2, fr2, i2, u1, wk_N_trans s2 u2, u3⟩
      · have hb' := wt_b_le hK s1
        have fne : ¬ Int32.ofNat (b i') = -1 := fun hh => (wq_eqm (by omega)).mp hh
        refine ⟨name', size', sort', may', kl', kn', kp', ks', km', kd', tot', at', fr', i', s1, s2, Or.inr ⟨?_, ?_⟩⟩
        · simp (disch := omega) only [↓xf_sr_readAll_18_s, wq_ltT, wq_ltF, wq_inT, wq_clamp, wq_eqF, wq_eqm, wq_meq, wq_add, wq_mul, wq_subT, eq_self, Bool.false_eq_true, ↓reduceIte, Option.bind_some, Sum.elim_inl, Sum.elim_inr, ↓wq_f0b, ↓wq_f1b, ↓wq_f2b, ↓wq_r0b, ↓wq_r1b, ↓Option.bind_some, ↓wq_b mo, ↓wq_b c1]
        · rw [xf_rf_schema_22_s]
          simp (disch := omega) only [wq_ltT, wq_ltF, wq_inT, wq_clamp, wq_eqF, wq_eqm, wq_meq, wq_add, wq_mul, wq_subT, eq_self, Bool.false_eq_true, ↓reduceIte, Option.bind_some, Sum.elim_inl, Sum.elim_inr, ↓wq_f0b, ↓wq_f1b, ↓wq_f2b, ↓wq_r0b, ↓wq_r1b, ↓Option.bind_some, m1, ↓wq_b pk, ea, ↓wq_b c2]
          simp (disch := omega) only [↓xf_rf_schema_22_s, ↓xf_rf_schema_44_s, wq_ltT, wq_ltF, wq_inT, wq_clamp, wq_eqF, wq_eqm, wq_meq, wq_add, wq_mul, wq_subT, eq_self, Bool.false_eq_true, ↓reduceIte, Option.bind_some, Sum.elim_inl, Sum.elim_inr, ↓wq_f0b, ↓wq_f1b, ↓wq_f2b, ↓wq_r0b, ↓wq_r1b, ↓Option.bind_some, fne]
    · rw [if_neg hiT] at mo
      have ea : wt_a ch T b i = 0 := if_neg hiT
      refine ⟨name, size, sort, may, kletters, knames, kparts, ksorts, kmay, kinds, Int32.ofNat K, Int32.ofNat (b i), from_, i, hi, ⟨fun _ _ => ⟨rfl, rfl⟩, fun _ _ => ⟨rfl, rfl, rfl⟩, rfl⟩, Or.inl ⟨K, y, w, hR, hk1, rfl, ?_, ?_⟩⟩
      · simp (disch := omega) only [↓xf_sr_readAll_18_s, ↓xf_sr_readAll_49_s, wq_ltT, wq_ltF, wq_inT, wq_clamp, wq_eqF, wq_eqm, wq_meq, wq_add, wq_mul, wq_subT, eq_self, Bool.false_eq_true, ↓reduceIte, Option.bind_some, Sum.elim_inl, Sum.elim_inr, ↓wq_f0b, ↓wq_f1b, ↓wq_f2b, ↓wq_r0b, ↓wq_r1b, ↓Option.bind_some, ↓wq_b mo]
      · rw [xf_rf_schema_22_s]
        simp (disch := omega) only [↓xf_rf_schema_44_s, wq_ltT, wq_ltF, wq_inT, wq_clamp, wq_eqF, wq_eqm, wq_meq, wq_add, wq_mul, wq_subT, eq_self, Bool.false_eq_true, ↓reduceIte, Option.bind_some, Sum.elim_inl, Sum.elim_inr, ↓wq_f0b, ↓wq_f1b, ↓wq_f2b, ↓wq_r0b, ↓wq_r1b, ↓Option.bind_some, m1, ↓wq_b pk, ea]
end
/-- the class takes the kinds over -/
theorem wk_ccopy {N K : Nat} (hN : 1300 ≤ N) (hK : K ≤ 12) (may0 size0 sort0 : Nat → Int32) (name0 : Nat → Int64) (total : Int32) (name size2 : Nat → Int32) (nm : Nat → Int64) : ∀ l x M (may sort : Nat → Int32), x + l = K * 8 → l < M → (∀ y, y < x → may y = vp_nar .boolean (may0 y) ∧ sort y = sort0 y) →
    ∃ (may' sort' : Nat → Int32), (∀ y, y < K * 8 → may' y = vp_nar .boolean (may0 y) ∧ sort' y = sort0 y) ∧ xf_kd_copyFrom_40 may0 name0 size0 sort0 total N M may nm size2 sort (Int32.ofNat K) (Int32.ofNat x) = some ((), may', nm, size2, sort', Int32.ofNat K) := by
  intro l
  induction l with
  | zero =>
    intro x M may sort hx hM h
    obtain ⟨M', rfl⟩ : ∃ M', M = M' + 1 := ⟨M - 1, by omega⟩
    refine ⟨may, sort, fun y hy => h y (by omega), ?_⟩
    simp (disch := omega) only [↓xf_kd_copyFrom_40_s, wq_ltT, wq_ltF, wq_inT, wq_clamp, wq_eqF, wq_eqm, wq_meq, wq_add, wq_mul, wq_subT, eq_self, Bool.false_eq_true, ↓reduceIte, Option.bind_some, Sum.elim_inl, Sum.elim_inr, ↓wq_f0b, ↓wq_f1b, ↓wq_f2b, ↓wq_r0b, ↓wq_r1b, ↓Option.bind_some]
  | succ l ih =>
    intro x M may sort hx hM h
    obtain ⟨M', rfl⟩ : ∃ M', M = M' + 1 := ⟨M - 1, by omega⟩
    obtain ⟨may', sort', i1, i2⟩ := ih (x + 1) M' (upd may x (vp_nar .boolean (may0 x))) (upd sort x (sort0 x)) (by omega) (by omega) (fun y hy => by
      by_cases e : y = x
      · rw [e, wq_upd1, wq_upd1]
        exact ⟨rfl, rfl⟩
      · rw [wq_upd2 e, wq_upd2 e]
        exact h y (by omega))
    refine ⟨may', sort', i1, ?_⟩
    rw [← i2, xf_kd_copyFrom_40_s]
    simp (disch := omega) only [wq_ltT, wq_ltF, wq_inT, wq_clamp, wq_eqF, wq_eqm, wq_meq, wq_add, wq_mul, wq_subT, eq_self, Bool.false_eq_true, ↓reduceIte, Option.bind_some, Sum.elim_inl, Sum.elim_inr, ↓wq_f0b, ↓wq_f1b, ↓wq_f2b, ↓wq_r0b, ↓wq_r1b, ↓Option.bind_some]
/-- the reference takes the kinds over -/
theorem wk_rcopy {text : Nat → Int32} {N : Nat} (hN : 1300 ≤ N) (at_ f fr sz th : Int32) (kinds kl0 km0 kn0 kp0 ks0 : Nat → Int32) : ∀ l k M (kl km kn kp ks : Nat → Int32), k + l = 12 → l < M →
    (∀ x, x < k → kl x = kl0 (12 + x) ∧ kp x = kp0 (12 + x)) → (∀ x, 12 ≤ x → kl x = kl0 x ∧ kp x = kp0 x) → (∀ x, x < 8 * k → km x = vp_nar .boolean (km0 (96 + x)) ∧ kn x = kn0 (96 + x) ∧ ks x = ks0 (96 + x)) → (∀ x, 96 ≤ x → km x = km0 x ∧ kn x = kn0 x ∧ ks x = ks0 x) →
    ∃ (kl' km' kn' kp' ks' : Nat → Int32), (∀ x, x < 12 → kl' x = kl0 (12 + x) ∧ kp' x = kp0 (12 + x)) ∧ (∀ x, x < 96 → km' x = vp_nar .boolean (km0 (96 + x)) ∧ kn' x = kn0 (96 + x) ∧ ks' x = ks0 (96 + x)) ∧
      xf_rf_schema_73 text N M at_ f fr kl km kn kp ks kinds sz th (Int32.ofNat k) = some (kinds 0, at_, f, fr, kl', km', kn', kp', ks', kinds, Int32.ofNat 0, th) := by
  intro l
  induction l with
  | zero =>
    intro k M kl km kn kp ks hk hM h1 h2 h3 h4
    obtain ⟨M', rfl⟩ : ∃ M', M = M' + 1 := ⟨M - 1, by omega⟩
    refine ⟨kl, km, kn, kp, ks, fun x hx => h1 x (by omega), fun x hx => h3 x (by omega), ?_⟩
    simp (disch := omega) only [↓xf_rf_schema_73_s, wq_ltT, wq_ltF, wq_inT, wq_clamp, wq_eqF, wq_eqm, wq_meq, wq_add, wq_mul, wq_subT, eq_self, Bool.false_eq_true, ↓reduceIte, Option.bind_some, Sum.elim_inl, Sum.elim_inr, ↓wq_f0b, ↓wq_f1b, ↓wq_f2b, ↓wq_r0b, ↓wq_r1b, ↓Option.bind_some]
  | succ l ih =>
    intro k M kl km kn kp ks hk hM h1 h2 h3 h4
    obtain ⟨M', rfl⟩ : ∃ M', M = M' + 1 := ⟨M - 1, by omega⟩
    -- the sorts and letters of one kind
    have inner : ∀ j i Mx (km kn ks : Nat → Int32), i + j = 8 → j < Mx → (∀ x, x < 8 * k + i → km x = vp_nar .boolean (km0 (96 + x)) ∧ kn x = kn0 (96 + x) ∧ ks x = ks0 (96 + x)) → (∀ x, 96 ≤ x → km x = km0 x ∧ kn x = kn0 x ∧ ks x = ks0 x) → ∃ (km' kn' ks' : Nat → Int32), (∀ x, x < 8 * (k + 1) → km' x = vp_nar .boolean (km0 (96 + x)) ∧ kn' x = kn0 (96 + x) ∧ ks' x = ks0 (96 + x)) ∧ (∀ x, 96 ≤ x → km' x = km0 x ∧ kn' x = kn0 x ∧ ks' x = ks0 x) ∧
        xf_rf_schema_111 text (xf_rf_schema_73 text N M') N Mx at_ f fr (upd kl k (kl (12 + k))) km kn (upd kp k (kp (12 + k))) ks kinds sz th (Int32.ofNat k) (Int32.ofNat i) = xf_rf_schema_73 text N M' at_ f fr (upd kl k (kl (12 + k))) km' kn' (upd kp k (kp (12 + k))) ks' kinds sz th (Int32.ofNat (k + 1)) := by
      intro j
      induction j with
      | zero =>
        intro i Mx km kn ks hi hMx g1 g2
        obtain ⟨Mx, rfl⟩ : ∃ M, Mx = M + 1 := ⟨Mx - 1, by omega⟩
        refine ⟨km, kn, ks, fun x hx => g1 x (by omega), g2, ?_⟩
        rw [xf_rf_schema_111_s]
        simp (disch := omega) only [wq_ltT, wq_ltF, wq_inT, wq_clamp, wq_eqF, wq_eqm, wq_meq, wq_add, wq_mul, wq_subT, eq_self, Bool.false_eq_true, ↓reduceIte, Option.bind_some, Sum.elim_inl, Sum.elim_inr, ↓wq_f0b, ↓wq_f1b, ↓wq_f2b, ↓wq_r0b, ↓wq_r1b, ↓Option.bind_some]
      | succ j ihj =>
        intro i Mx km kn ks hi hMx g1 g2
        obtain ⟨Mx, rfl⟩ : ∃ M, Mx = M + 1 := ⟨Mx - 1, by omega⟩
        have e96 : 8 * (12 + k) + i = 96 + (8 * k + i) := by omega
        obtain ⟨u1, u2, u3⟩ := g2 (96 + (8 * k + i)) (by omega)
        obtain ⟨km', kn', ks', i1, i2, i3⟩ := ihj (i + 1) Mx (upd km (8 * k + i) (vp_nar .boolean (km (96 + (8 * k + i))))) (upd kn (8 * k + i) (kn (96 + (8 * k + i)))) (upd ks (8 * k + i) (ks (96 + (8 * k + i)))) (by omega) (by omega) (fun x hx => by
          by_cases e : x = 8 * k + i
          · rw [e, wq_upd1, wq_upd1, wq_upd1, u1, u2, u3]
            exact ⟨rfl, rfl, rfl⟩
          · rw [wq_upd2 e, wq_upd2 e, wq_upd2 e]
            exact g1 x (by omega)) (fun x hx => by
          rw [wq_upd2 (by omega), wq_upd2 (by omega), wq_upd2 (by omega)]
          exact g2 x hx)
        refine ⟨km', kn', ks', i1, i2, ?_⟩
        rw [← i3, xf_rf_schema_111_s]
        simp (disch := omega) only [wq_ltT, wq_ltF, wq_inT, wq_clamp, wq_eqF, wq_eqm, wq_meq, wq_add, wq_mul, wq_subT, eq_self, Bool.false_eq_true, ↓reduceIte, Option.bind_some, Sum.elim_inl, Sum.elim_inr, ↓wq_f0b, ↓wq_f1b, ↓wq_f2b, ↓wq_r0b, ↓wq_r1b, ↓Option.bind_some, e96]
    obtain ⟨km', kn', ks', j1, j2, j3⟩ := inner 8 0 N km kn ks (by omega) (by omega) (fun x hx => h3 x (by omega)) h4
    obtain ⟨kl', km2, kn2, kp', ks2, i1, i2, i3⟩ := ih (k + 1) M' (upd kl k (kl (12 + k))) km' kn' (upd kp k (kp (12 + k))) ks' (by omega) (by omega) (fun x hx => by
      by_cases e : x = k
      · rw [e, wq_upd1, wq_upd1]
        exact h2 (12 + k) (by omega)
      · rw [wq_upd2 e, wq_upd2 e]
        exact h1 x (by omega)) (fun x hx => by
      rw [wq_upd2 (by omega), wq_upd2 (by omega)]
      exact h2 x hx) j1 j2
    refine ⟨kl', km2, kn2, kp', ks2, i1, i2, ?_⟩
    rw [← i3, ← j3, xf_rf_schema_73_s]
    simp (disch := omega) only [wq_ltT, wq_ltF, wq_inT, wq_clamp, wq_eqF, wq_eqm, wq_meq, wq_add, wq_mul, wq_subT, eq_self, Bool.false_eq_true, ↓reduceIte, Option.bind_some, Sum.elim_inl, Sum.elim_inr, ↓wq_f0b, ↓wq_f1b, ↓wq_f2b, ↓wq_r0b, ↓wq_r1b, ↓Option.bind_some]
theorem wc_3 {sc : Nat × (Nat → Int32)} {N : Nat} (hN : 1300 ≤ N) : wp_Ok sc wi_I (xf_law_3 sc N) := by
  apply wp_red_3
  intro A L S hI
  obtain ⟨⟨E, t1, t2, t3, t4⟩, ⟨T0, y0, w0, hK0⟩, hm, hkept⟩ := id hI
  have hX : wt_X E (fun j => (A 2 j).toNatClampNeg) (A 2) (A 58) := by
    refine ⟨t1, fun j hj => ?_⟩
    obtain ⟨a1, k, k1, k2, k3⟩ := t4 j hj
    show A 2 j = Int32.ofNat (A 2 j).toNatClampNeg ∧ A 58 j = Int32.ofNat (A 2 j).toNatClampNeg ∧ 32 ≤ (A 2 j).toNatClampNeg ∧ (A 2 j).toNatClampNeg ≤ 126
    rw [a1, k3, wq_clamp (by omega)]
    exact ⟨rfl, rfl, k1, k2⟩
  obtain ⟨T, b, st, o, begin', digits', end', first', hTok, hsp⟩ := wt_split (signs := A 2) t1 (fun j hj => ⟨(hX.2 j hj).1, (hX.2 j hj).2.2⟩) hN true (A 51) (A 54) (A 52) (A 53) (S 50 6) (S 50 5)
  have fl : wt_fl true = Int32.ofNat 1 := rfl
  rw [fl] at hsp
  have hs0 := wt_st_le hTok (i := 0) (by omega)
  have st0 : st 0 = 0 := hTok.1.1.1
  have R0 : wk_R 0 (fun _ => 0) (fun _ => 0) (Int32.ofNat 0) (L 11) (A 12) (A 13) (A 14) (A 61) (A 62) (A 63) (A 64) (A 65) := ⟨⟨by omega, rfl, rfl⟩, fun i hi => absurd hi (by omega), fun i hi => absurd hi (by omega), fun i j hi => absurd hi (by omega)⟩
  obtain ⟨name', size', sort', may', kl', kn', kp', ks', km', kd', tot', at', fr', i', u1, ⟨n1, n2, n3⟩, u3⟩ := wk_all hX hTok hN (S 57 1) (Int32.ofNat 0) 12 0 0 0 N N (fun _ => 0) (fun _ => 0) (L 11) (A 12) (A 13) (A 14) (A 61) (A 62) (A 63) (A 64) (A 65) (upd (A 60) 1 (Int32.ofNat 0)) (S 57 20) (by omega) (by omega) (by omega) (by omega) (by omega) (by omega) hTok.1.1.2 R0 wq_upd1
  rw [t2, t3]
  have hb := wt_b_le hTok u1
  rcases u3 with ⟨K', y', w', hR, hkd, htot, c1, c2⟩ | ⟨c1, c2⟩
  · obtain ⟨⟨R1, R1', _⟩, R2, R3, R4⟩ := hR
    -- the class copies
    obtain ⟨may2, sort2, p1, p2⟩ := wk_ccopy (N := N) hN R1 may' size' sort' name' tot' (A 7) (va_cpy size' (A 7) 0 0 12) (va_cpy name' (L 6) 0 0 12) (K' * 8) 0 N (A 9) (A 8) (by omega) (by omega) (fun y hy => absurd hy (by omega))
    have cg : xr_cg (Int32.ofNat 0) (Int32.ofNat 0) (Int32.ofNat 12) 12 12 := by decide
    have cp : xf_kd_copyFrom may' name' size' sort' tot' N (A 9) (L 6) (A 7) (A 8) (S 5 0) = some ((), may2, va_cpy name' (L 6) 0 0 12, va_cpy size' (A 7) 0 0 12, sort2, Int32.ofNat K') := by
      rw [← p2, xf_kd_copyFrom_s, if_pos cg, if_pos cg, htot, wq_clamp (by omega), wq_clamp (by omega)]
    -- the reference copies
    obtain ⟨kl2, km2, kn2, kp2, ks2, q1, q2, q3⟩ := wk_rcopy (text := A 58) (N := N) hN at' (-1) fr' (Int32.ofNat E) (Int32.ofNat 0) (upd kd' 0 (kd' 1)) kl' km' kn' kp' ks' 12 0 N kl' km' kn' kp' ks' (by omega) (by omega) (fun x hx => absurd hx (by omega)) (fun _ _ => ⟨rfl, rfl⟩) (fun x hx => absurd hx (by omega)) (fun _ _ => ⟨rfl, rfl, rfl⟩)
    rw [wq_upd1, hkd] at q3
    have h1 : xf_xt_schema (A 2) N (A 9) (L 6) (A 7) (A 8) (S 5 0) (A 51) (A 54) (A 52) (A 53) (S 50 6) (S 50 5) (A 14) (L 11) (A 12) (A 13) (S 10 0) (S 1 2) (Int32.ofNat E) = some (Int32.ofNat K', may2, va_cpy name' (L 6) 0 0 12, va_cpy size' (A 7) 0 0 12, sort2, Int32.ofNat K', begin', digits', end', first', Int32.ofNat i', Int32.ofNat T, may', name', size', sort', tot', Int32.ofNat 0, Int32.ofNat 0) := by
      have ra : xf_sr_readAll (Int32.ofNat E) (A 2) N (A 14) (L 11) (A 12) (A 13) (S 10 0) (A 51) (A 54) (A 52) (A 53) (S 50 6) (S 50 5) = some (Int32.ofNat 1, may', name', size', sort', tot', begin', digits', end', first', Int32.ofNat i', Int32.ofNat T) := by
        rw [← c1, xf_sr_readAll_s, hsp, Option.bind_some]
      simp (disch := omega) only [↓xf_xt_schema_s, wq_ltT, wq_ltF, wq_inT, wq_clamp, wq_eqF, wq_eqm, wq_meq, wq_add, wq_mul, wq_subT, eq_self, Bool.false_eq_true, ↓reduceIte, Option.bind_some, Sum.elim_inl, Sum.elim_inr, ↓wq_f0b, ↓wq_f1b, ↓wq_f2b, ↓wq_r0b, ↓wq_r1b, ↓Option.bind_some, ↓wq_b ra, ↓wq_b cp, ↓xf_pg_clear_s]
    have h2 : xf_rf_schema (A 58) N (S 57 18) (S 57 19) (S 57 20) (A 61) (A 65) (A 62) (A 63) (A 64) (A 60) (Int32.ofNat E) (S 57 0) = some (Int32.ofNat K', at', -1, fr', kl2, km2, kn2, kp2, ks2, upd kd' 0 (Int32.ofNat K'), Int32.ofNat 0, Int32.ofNat 0) := by
      rw [← q3, ← hkd, ← c2, xf_rf_schema_s, wq_clamp (by omega)]
    have nb : ∀ x : Int32, x = Int32.ofNat 0 ∨ x = Int32.ofNat 1 → vp_nar .boolean x = x := by
      intro x hx
      rcases hx with rfl | rfl
      · decide
      · decide
    have hK' : wi_K K' y' w' (Int32.ofNat K') (va_cpy name' (L 6) 0 0 12) (va_cpy size' (A 7) 0 0 12) sort2 may2 (upd kd' 0 (Int32.ofNat K')) kl2 kn2 kp2 ks2 km2 := by
      refine ⟨⟨R1, rfl, wq_upd1⟩, fun i hi => ?_, fun i hi => ?_, fun i j hi hj => ?_⟩
      · obtain ⟨r1, r2, r3, r4, r5⟩ := R2 i hi
        refine ⟨by rw [(q1 i (by omega)).1]; exact r1, r2, r3, ?_, fun j hj => ?_⟩
        · rw [wq_cpyZ (by omega), r4]
          exact wq_pack_congr2 _ (fun x hx => ((q2 (8 * i + x) (by omega)).2.1).symm)
        · rw [(q2 (8 * i + j) (by omega)).2.1]
          exact r5 j hj
      · obtain ⟨r1, r2, r3, r4⟩ := R3 i hi
        exact ⟨by rw [(q1 i (by omega)).2]; exact r1, by rw [wq_cpyZ (by omega)]; exact r2, r3, r4⟩
      · have w8 := (R3 i hi).2.2.2
        obtain ⟨r1, r2, r3, r4⟩ := R4 i j hi hj
        obtain ⟨v1, v2, v3⟩ := q2 (8 * i + j) (by omega)
        obtain ⟨x1, x2⟩ := p1 (i * 8 + j) (by omega)
        have r4' : km' (96 + (8 * i + j)) = Int32.ofNat 0 ∨ km' (96 + (8 * i + j)) = Int32.ofNat 1 := r4
        have r3' : may' (i * 8 + j) = km' (96 + (8 * i + j)) := r3
        rw [nb _ r4'] at v1
        rw [r3', nb _ r4'] at x1
        rw [v1, v3, x1, x2]
        exact ⟨r1, r2, rfl, r4'⟩
    exact ⟨_, _, h1, h2, rfl, ⟨⟨0, by omega, rfl, rfl, fun j hj => absurd hj (by omega)⟩, ⟨K', y', w', hK'⟩, hm, hkept⟩⟩
  · have sa := wt_stands hX hTok u1
    have h1 : xf_xt_schema (A 2) N (A 9) (L 6) (A 7) (A 8) (S 5 0) (A 51) (A 54) (A 52) (A 53) (S 50 6) (S 50 5) (A 14) (L 11) (A 12) (A 13) (S 10 0) (S 1 2) (Int32.ofNat E) = some (-1 - Int32.ofNat (b i'), A 9, L 6, A 7, A 8, S 5 0, begin', digits', end', first', Int32.ofNat i', Int32.ofNat T, may', name', size', sort', tot', S 1 2, Int32.ofNat E) := by
      have ra : xf_sr_readAll (Int32.ofNat E) (A 2) N (A 14) (L 11) (A 12) (A 13) (S 10 0) (A 51) (A 54) (A 52) (A 53) (S 50 6) (S 50 5) = some (Int32.ofNat 0, may', name', size', sort', tot', begin', digits', end', first', Int32.ofNat i', Int32.ofNat T) := by
        rw [← c1, xf_sr_readAll_s, hsp, Option.bind_some]
      simp (disch := omega) only [↓xf_xt_schema_s, wq_ltT, wq_ltF, wq_inT, wq_clamp, wq_eqF, wq_eqm, wq_meq, wq_add, wq_mul, wq_subT, eq_self, Bool.false_eq_true, ↓reduceIte, Option.bind_some, Sum.elim_inl, Sum.elim_inr, ↓wq_f0b, ↓wq_f1b, ↓wq_f2b, ↓wq_r0b, ↓wq_r1b, ↓Option.bind_some, ↓wq_b ra, ↓wq_b sa]
    have h2 : xf_rf_schema (A 58) N (S 57 18) (S 57 19) (S 57 20) (A 61) (A 65) (A 62) (A 63) (A 64) (A 60) (Int32.ofNat E) (S 57 0) = some (-1 - Int32.ofNat (b i'), at', Int32.ofNat (b i'), fr', kl', km', kn', kp', ks', kd', Int32.ofNat E, Int32.ofNat 0) := by
      rw [← c2, xf_rf_schema_s, wq_clamp (by omega)]
    have hK' : wi_K T0 y0 w0 (S 5 0) (L 6) (A 7) (A 8) (A 9) kd' kl' kn' kp' ks' km' := by
      obtain ⟨⟨k1, k2, k3⟩, k4, k5, k6⟩ := hK0
      refine ⟨⟨k1, k2, ?_⟩, fun i hi => ?_, fun i hi => ?_, fun i j hi hj => ?_⟩
      · rw [n3, wq_upd2 (by omega)]
        exact k3
      · obtain ⟨r1, r2, r3, r4, r5⟩ := k4 i hi
        refine ⟨by rw [(n1 i (by omega)).1]; exact r1, r2, r3, ?_, fun j hj => ?_⟩
        · rw [r4]
          exact wq_pack_congr2 _ (fun x hx => ((n2 (8 * i + x) (by omega)).2.1).symm)
        · rw [(n2 (8 * i + j) (by omega)).2.1]
          exact r5 j hj
      · obtain ⟨r1, r2, r3, r4⟩ := k5 i hi
        exact ⟨by rw [(n1 i (by omega)).2]; exact r1, r2, r3, r4⟩
      · have w8 := (k5 i hi).2.2.2
        obtain ⟨v1, v2, v3⟩ := n2 (8 * i + j) (by omega)
        rw [v1, v3]
        exact k6 i j hi hj
    exact ⟨_, _, h1, h2, rfl, ⟨⟨E, t1, rfl, rfl, t4⟩, ⟨T0, y0, w0, hK'⟩, hm, hkept⟩⟩
