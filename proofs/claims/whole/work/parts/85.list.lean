/-! READ: lists. -/
/-- what an item is: of numbers (0) or of references (1) -/
def wz_G (kd : Nat) (v : Int32) : Prop := if kd = 0 then ¬ v < -999999999 ∧ ¬ Int32.ofNat 999999999 < v else ∃ w, 1 ≤ w ∧ w ≤ 999 ∧ v = Int32.ofNat w
def wz_C (kd : Nat) (begin_ digits end_ first : Nat → Int32) (tot now : Int32) : Option (Int32 × Int32) := if kd = 0 then xf_wd_takeNumber digits first tot now else xf_wd_takeReference begin_ digits end_ first tot now
def wz_R (kd : Nat) (size : Int32) (text : Nat → Int32) (N : Nat) (at_ f fr : Int32) : Option (Int32 × Int32 × Int32 × Int32) := if kd = 0 then xf_rf_number size text N at_ f fr else xf_rf_reference size text N at_ f fr
section
variable {E T : Nat} {ch : Nat → Nat} {signs text : Nat → Int32} {b st : Nat → Nat} {o : Nat → Bool} {begin_ end_ first digits : Nat → Int32}
/-- one item -/
theorem wz_item (hX : wt_X E ch signs text) (hK : wt_Tok ch E false T b st o begin_ end_ first digits) {N : Nat} (hN : 1300 ≤ N) {kd : Nat} (hkd : kd = 0 ∨ kd = 1) {i : Nat} (hi : i ≤ T) (from_ : Int32) :
    ∃ bg : Nat, ((kd = 0 → xf_rf_beginsNumber (Int32.ofNat (wt_a ch T b i)) = some (Int32.ofNat bg)) ∧ (kd = 1 → bg = if wt_a ch T b i = 35 then 1 else 0)) ∧
    ((bg = 1 ∧ ∃ (i' : Nat) (v fr : Int32), i < i' ∧ i' ≤ T ∧ st i < st i' ∧ wz_G kd v ∧ (v = -2000000000) = False ∧ wz_C kd begin_ digits end_ first (Int32.ofNat T) (Int32.ofNat i) = some (v, Int32.ofNat i') ∧ wz_R kd (Int32.ofNat E) text N (Int32.ofNat (b i)) (-1) from_ = some (v, Int32.ofNat (st i'), -1, fr)) ∨
     (∃ (i' : Nat), i' ≤ T ∧ wz_C kd begin_ digits end_ first (Int32.ofNat T) (Int32.ofNat i) = some (-2000000000, Int32.ofNat i') ∧ ((bg = 0 ∧ i' = i) ∨ (bg = 1 ∧ ∃ v at_ fr, wz_R kd (Int32.ofNat E) text N (Int32.ofNat (b i)) (-1) from_ = some (v, at_, Int32.ofNat (b i'), fr))))) := by
  have hs := wt_st_le hK hi
  have ab := wt_a_lt hX hK i
  rcases hkd with rfl | rfl
  · have bg := wz_begins (c := wt_a ch T b i) ab
    refine ⟨_, ⟨fun _ => bg, fun h => absurd h (by omega)⟩, ?_⟩
    rcases wz_num hX hK hN (i := i) (p := b i) hi hs (Nat.le_refl _) from_ with ⟨i', v, fr, l0, l1, l2, l3, l4, l5, l6, l7, l8⟩ | ⟨i', v, at_, fr, l1, l5, l6, l7⟩
    · exact Or.inl ⟨if_pos (wz_beg_iff.mpr l0), i', v, fr, l1, l2, l3, ⟨l4, l5⟩, l6, l7, l8⟩
    · refine Or.inr ⟨i', l1, l5, ?_⟩
      by_cases hbg : wt_a ch T b i = 45 ∨ wt_dg (wt_a ch T b i) = true
      · exact Or.inr ⟨if_pos hbg, v, at_, fr, l6⟩
      · exact Or.inl ⟨if_neg hbg, l7 (fun hh => hbg (Or.inl hh)) (fun hh => hbg (wz_beg_iff.mpr (Or.inr hh)))⟩
  · refine ⟨_, ⟨fun h => absurd h (by omega), fun _ => rfl⟩, ?_⟩
    rcases wz_ref hX hK hN (i := i) (p := b i) hi hs (Nat.le_refl _) from_ with ⟨w, fr, h35, l1, l2, l3, l4, l5, l6⟩ | ⟨i', v, at_, fr, l1, l5, l6, l7⟩
    · exact Or.inl ⟨if_pos h35, i + 2, Int32.ofNat w, fr, by omega, l1, by omega, ⟨w, l3, l4, rfl⟩, wz_m2 (by omega), l5, l6⟩
    · refine Or.inr ⟨i', l1, l5, ?_⟩
      by_cases h35 : wt_a ch T b i = 35
      · exact Or.inr ⟨if_pos h35, v, at_, fr, l6⟩
      · exact Or.inl ⟨if_neg h35, l7 h35⟩
/-- the items -/
theorem wz_items (hX : wt_X E ch signs text) (hK : wt_Tok ch E false T b st o begin_ end_ first digits) {N : Nat} (hN : 1300 ≤ N) {kd : Nat} (hkd : kd = 0 ∨ kd = 1) {x s : Nat} (hx : x < 320) (sort start sorts values : Nat → Int32) (hso : sorts (320 + x) = Int32.ofNat (3 + kd)) :
    ∀ l k j q u M1 M2 (items value ritems : Nat → Int32) (fr : Int32), k + l = 6 → j ≤ T → st j ≤ q → q ≤ b j → s + k = u → u ≤ st j → l < M1 → l + 2 < M2 → value x = Int32.ofNat k → (∀ y, y < k → items (s + y) = ritems (6400 + 20 * x + y) ∧ wz_G kd (ritems (6400 + 20 * x + y))) →
    ∃ (items' value' ritems' : Nat → Int32) (us' fr' at' : Int32) (i' k' : Nat), i' ≤ T ∧ (∀ y, y < s → items' y = items y) ∧ (∀ y, y ≠ x → value' y = value y) ∧ (∀ y, y < 6400 + 20 * x ∨ 6400 + 20 * x + 20 ≤ y → ritems' y = ritems y) ∧
      ((∃ p', at' = Int32.ofNat p' ∧ j < i' ∧ st i' ≤ p' ∧ p' ≤ b i' ∧ s + k' ≤ st i' ∧ k' ≤ 6 ∧ us' = Int32.ofNat (s + k') ∧ value' x = Int32.ofNat k' ∧ (∀ y, y < k' → items' (s + y) = ritems' (6400 + 20 * x + y) ∧ wz_G kd (ritems' (6400 + 20 * x + y))) ∧
          xf_mr_readList_66 begin_ digits end_ first (Int32.ofNat T) N M1 items sort start (Int32.ofNat u) value (Int32.ofNat j) (Int32.ofNat x) (Int32.ofNat kd) (Int32.ofNat k) = some (Int32.ofNat 1, items', sort, start, us', value', Int32.ofNat i') ∧
          xf_rf_list_43 (Int32.ofNat E) text N M2 (Int32.ofNat q) (-1) fr ritems sorts values (Int32.ofNat (320 + x)) (Int32.ofNat k) (Int32.ofNat 1) = some ((), at', -1, fr', ritems', sorts, upd values (320 + x) (Int32.ofNat k'))) ∨
       (xf_mr_readList_66 begin_ digits end_ first (Int32.ofNat T) N M1 items sort start (Int32.ofNat u) value (Int32.ofNat j) (Int32.ofNat x) (Int32.ofNat kd) (Int32.ofNat k) = some (Int32.ofNat 0, items', sort, start, us', value', Int32.ofNat i') ∧
          xf_rf_list_43 (Int32.ofNat E) text N M2 (Int32.ofNat q) (-1) fr ritems sorts values (Int32.ofNat (320 + x)) (Int32.ofNat k) (Int32.ofNat 1) = some ((), at', Int32.ofNat (b i'), fr', ritems', sorts, upd values (320 + x) (Int32.ofNat k')))) := by
  have hE := hX.1
  have hTE := hK.2.1
  have m1 : ((-1 : Int32) = -1) = True := eq_true rfl
  have fne : ∀ y, y ≤ 1200 → (Int32.ofNat y = -1) = False := fun y hy => wq_eqm (by omega)
  -- the reference ends
  have fin : ∀ (at_ f fr : Int32) (ritems : Nat → Int32) (k : Nat), ¬ f = -1 → xf_rf_list_190 (Int32.ofNat E) text N at_ f fr ritems sorts values (Int32.ofNat (320 + x)) (Int32.ofNat k) = some ((), at_, f, fr, ritems, sorts, upd values (320 + x) (Int32.ofNat k)) := by
    intro at_ f fr ritems k hf
    have rs := wt_rsign2 (E := E) (text := text) (N := N) (at_ := at_) (f := f) (c := Int32.ofNat 41) hf
    simp (disch := omega) only [↓xf_rf_list_190_s, wq_ltT, wq_ltF, wq_inT, wq_clamp, wq_eqF, wq_eqm, wq_meq, wq_add, wq_mul, wq_subT, eq_self, Bool.false_eq_true, ↓reduceIte, Option.bind_some, Sum.elim_inl, Sum.elim_inr, ↓wq_f0b, ↓wq_f1b, ↓wq_f2b, ↓wq_r0b, ↓wq_r1b, ↓Option.bind_some, ↓wq_b rs]
  have stop : ∀ M (at_ f fr v4 : Int32) (ritems : Nat → Int32) (k : Nat), ¬ f = -1 → xf_rf_list_43 (Int32.ofNat E) text N (M + 1) at_ f fr ritems sorts values (Int32.ofNat (320 + x)) (Int32.ofNat k) v4 = some ((), at_, f, fr, ritems, sorts, upd values (320 + x) (Int32.ofNat k)) := by
    intro M at_ f fr v4 ritems k hf
    rw [← fin at_ f fr ritems k hf, xf_rf_list_43_s, if_neg hf, ite_self]
  -- the reference begins an item
  have rstep : ∀ M j q k bg (ritems : Nat → Int32) (fr : Int32), j ≤ T → st j ≤ q → q ≤ b j → ((kd = 0 → xf_rf_beginsNumber (Int32.ofNat (wt_a ch T b j)) = some (Int32.ofNat bg)) ∧ (kd = 1 → bg = if wt_a ch T b j = 35 then 1 else 0)) → xf_rf_list_43 (Int32.ofNat E) text N (M + 1) (Int32.ofNat q) (-1) fr ritems sorts values (Int32.ofNat (320 + x)) (Int32.ofNat k) (Int32.ofNat 1) = xf_rf_list_89 (Int32.ofNat E) text (xf_rf_list_43 (Int32.ofNat E) text N M) N (Int32.ofNat (b j)) (-1) fr ritems sorts values (Int32.ofNat (320 + x)) (Int32.ofNat k) (Int32.ofNat 1) (Int32.ofNat bg) := by
    intro M j q k bg ritems fr hj h1 h2 hbg
    have pk := wt_peek hX hK hN hj h1 h2
    have ab := wt_a_lt hX hK j
    rw [xf_rf_list_43_s]
    rcases hkd with rfl | rfl
    · have e := hbg.1 rfl
      simp (disch := omega) only [wq_ltT, wq_ltF, wq_inT, wq_clamp, wq_eqF, wq_eqm, wq_meq, wq_add, wq_mul, wq_subT, eq_self, Bool.false_eq_true, ↓reduceIte, Option.bind_some, Sum.elim_inl, Sum.elim_inr, ↓wq_f0b, ↓wq_f1b, ↓wq_f2b, ↓wq_r0b, ↓wq_r1b, ↓Option.bind_some, m1, ↓wq_b pk, hso, ↓wq_b e, Nat.add_zero]
    · have e := hbg.2 rfl
      by_cases h35 : wt_a ch T b j = 35
      · rw [if_pos h35] at e
        rw [e]
        simp (disch := omega) only [wq_ltT, wq_ltF, wq_inT, wq_clamp, wq_eqF, wq_eqm, wq_meq, wq_add, wq_mul, wq_subT, eq_self, Bool.false_eq_true, ↓reduceIte, Option.bind_some, Sum.elim_inl, Sum.elim_inr, ↓wq_f0b, ↓wq_f1b, ↓wq_f2b, ↓wq_r0b, ↓wq_r1b, ↓Option.bind_some, m1, ↓wq_b pk, hso, h35, Nat.reduceAdd]
      · rw [if_neg h35] at e
        rw [e]
        simp (disch := omega) only [wq_ltT, wq_ltF, wq_inT, wq_clamp, wq_eqF, wq_eqm, wq_meq, wq_add, wq_mul, wq_subT, eq_self, Bool.false_eq_true, ↓reduceIte, Option.bind_some, Sum.elim_inl, Sum.elim_inr, ↓wq_f0b, ↓wq_f1b, ↓wq_f2b, ↓wq_r0b, ↓wq_r1b, ↓Option.bind_some, m1, ↓wq_b pk, hso, Nat.reduceAdd]
  intro l
  induction l with
  | zero =>
    intro k j q u M1 M2 items value ritems fr hk hj h1 h2 hsu hu hM1 hM2 hv hit
    obtain ⟨M1, rfl⟩ : ∃ M, M1 = M + 1 := ⟨M1 - 1, by omega⟩
    obtain ⟨M2, rfl⟩ : ∃ M, M2 = M + 1 + 1 := ⟨M2 - 2, by omega⟩
    have e6 : k = 6 := by omega
    subst e6
    have hb := wt_b_le hK hj
    obtain ⟨bg, hbg, _⟩ := wz_item hX hK hN hkd hj fr
    refine ⟨items, value, ritems, Int32.ofNat u, fr, Int32.ofNat (b j), j, 6, hj, fun _ _ => rfl, fun _ _ => rfl, fun _ _ => rfl, Or.inr ⟨?_, ?_⟩⟩
    · simp (disch := omega) only [↓xf_mr_readList_66_s, wq_ltT, wq_ltF, wq_inT, wq_clamp, wq_eqF, wq_eqm, wq_meq, wq_add, wq_mul, wq_subT, eq_self, Bool.false_eq_true, ↓reduceIte, Option.bind_some, Sum.elim_inl, Sum.elim_inr, ↓wq_f0b, ↓wq_f1b, ↓wq_f2b, ↓wq_r0b, ↓wq_r1b, ↓Option.bind_some]
    · rw [rstep (M2 + 1) j q 6 bg ritems fr hj h1 h2 hbg, ← stop M2 (Int32.ofNat (b j)) (Int32.ofNat (b j)) fr (Int32.ofNat 1) ritems 6 (fun hh => (fne _ (by omega)).mp hh)]
      simp (disch := omega) only [↓xf_rf_list_89_s, ↓xf_rf_list_102_s, ↓xf_rf_list_187_s, wq_ltT, wq_ltF, wq_inT, wq_clamp, wq_eqF, wq_eqm, wq_meq, wq_add, wq_mul, wq_subT, eq_self, Bool.false_eq_true, ↓reduceIte, Option.bind_some, Sum.elim_inl, Sum.elim_inr, ↓wq_f0b, ↓wq_f1b, ↓wq_f2b, ↓wq_r0b, ↓wq_r1b, ↓Option.bind_some, m1, ↓xf_rf_wrongAt_13_s, ↓xf_rf_wrongAt_s]
  | succ l ih =>
    intro k j q u M1 M2 items value ritems fr hk hj h1 h2 hsu hu hM1 hM2 hv hit
    obtain ⟨M1, rfl⟩ : ∃ M, M1 = M + 1 := ⟨M1 - 1, by omega⟩
    obtain ⟨M2, rfl⟩ : ∃ M, M2 = M + 1 + 1 := ⟨M2 - 2, by omega⟩
    have hb := wt_b_le hK hj
    obtain ⟨bg, hbg, hitm⟩ := wz_item hX hK hN hkd hj fr
    have rs0 := rstep (M2 + 1) j q k bg ritems fr hj h1 h2 hbg
    have e20 : 20 * (320 + x) + k = 6400 + 20 * x + k := by omega
    -- the class begins an item
    have cs0 : xf_mr_readList_66 begin_ digits end_ first (Int32.ofNat T) N (M1 + 1) items sort start (Int32.ofNat u) value (Int32.ofNat j) (Int32.ofNat x) (Int32.ofNat kd) (Int32.ofNat k) = (wz_C kd begin_ digits end_ first (Int32.ofNat T) (Int32.ofNat j)).bind fun q => xf_mr_readList_93 begin_ digits end_ first (Int32.ofNat T) (xf_mr_readList_66 begin_ digits end_ first (Int32.ofNat T) N M1) N items sort start (Int32.ofNat u) value q.2 (Int32.ofNat x) (Int32.ofNat kd) (Int32.ofNat k) q.1 := by
      rw [xf_mr_readList_66_s]
      rcases hkd with rfl | rfl
      · simp (disch := omega) only [wq_ltT, wq_ltF, wq_inT, wq_clamp, wq_eqF, wq_eqm, wq_meq, wq_add, wq_mul, wq_subT, eq_self, Bool.false_eq_true, ↓reduceIte, Option.bind_some, Sum.elim_inl, Sum.elim_inr, ↓wq_f0b, ↓wq_f1b, ↓wq_f2b, ↓wq_r0b, ↓wq_r1b, ↓Option.bind_some]
        rfl
      · simp (disch := omega) only [wq_ltT, wq_ltF, wq_inT, wq_clamp, wq_eqF, wq_eqm, wq_meq, wq_add, wq_mul, wq_subT, eq_self, Bool.false_eq_true, ↓reduceIte, Option.bind_some, Sum.elim_inl, Sum.elim_inr, ↓wq_f0b, ↓wq_f1b, ↓wq_f2b, ↓wq_r0b, ↓wq_r1b, ↓Option.bind_some]
        rfl
    rw [cs0, rs0]
    -- the reference reads it
    have rs1 : bg = 1 → xf_rf_list_89 (Int32.ofNat E) text (xf_rf_list_43 (Int32.ofNat E) text N (M2 + 1)) N (Int32.ofNat (b j)) (-1) fr ritems sorts values (Int32.ofNat (320 + x)) (Int32.ofNat k) (Int32.ofNat 1) (Int32.ofNat bg) = (wz_R kd (Int32.ofNat E) text N (Int32.ofNat (b j)) (-1) fr).bind fun q => xf_rf_list_144 (Int32.ofNat E) text (xf_rf_list_43 (Int32.ofNat E) text N (M2 + 1)) N q.2.1 q.2.2.1 q.2.2.2 ritems sorts values (Int32.ofNat (320 + x)) (Int32.ofNat k) (Int32.ofNat (6400 + 20 * x + k)) q.1 := by
      intro e
      rw [e, xf_rf_list_89_s]
      rcases hkd with rfl | rfl
      · simp (disch := omega) only [wq_ltT, wq_ltF, wq_inT, wq_clamp, wq_eqF, wq_eqm, wq_meq, wq_add, wq_mul, wq_subT, eq_self, Bool.false_eq_true, ↓reduceIte, Option.bind_some, Sum.elim_inl, Sum.elim_inr, ↓wq_f0b, ↓wq_f1b, ↓wq_f2b, ↓wq_r0b, ↓wq_r1b, ↓Option.bind_some, hso, Nat.add_zero, e20]
        rfl
      · simp (disch := omega) only [wq_ltT, wq_ltF, wq_inT, wq_clamp, wq_eqF, wq_eqm, wq_meq, wq_add, wq_mul, wq_subT, eq_self, Bool.false_eq_true, ↓reduceIte, Option.bind_some, Sum.elim_inl, Sum.elim_inr, ↓wq_f0b, ↓wq_f1b, ↓wq_f2b, ↓wq_r0b, ↓wq_r1b, ↓Option.bind_some, hso, Nat.reduceAdd, e20]
        rfl
    rcases hitm with ⟨hb1, i', v, fr', l1, l2, l3, l4, l5, l6, l7⟩ | ⟨i', l1, l6, l7⟩
    · -- an item
      rw [rs1 hb1, l6, l7, Option.bind_some, Option.bind_some]
      have hs' := wt_st_le hK l2
      have hb' := wt_b_le hK l2
      have ad := wz_addItem (u := u) (x := x) (by omega) hx items value v
      rw [hv, wq_add] at ad
      have tk1 := wt_takes hX hK (i := i') (c := 41) l2 (by omega) (by omega)
      have tk2 := wt_takes hX hK (i := i') (c := 44) l2 (by omega) (by omega)
      have pk := wt_peek hX hK hN l2 (Nat.le_refl _) hs'
      have ab := wt_a_lt hX hK i'
      have hit' : ∀ y, y < k + 1 → upd items u v (s + y) = upd ritems (6400 + 20 * x + k) v (6400 + 20 * x + y) ∧ wz_G kd (upd ritems (6400 + 20 * x + k) v (6400 + 20 * x + y)) := by
        intro y hy
        by_cases e : y = k
        · rw [e, hsu, wq_upd1, wq_upd1]
          exact ⟨rfl, l4⟩
        · rw [wq_upd2 (by omega), wq_upd2 (by omega)]
          exact hit y (by omega)
      by_cases h44 : wt_a ch T b i' = 44
      · rw [if_neg (by omega)] at tk1
        rw [if_pos h44] at tk2
        rw [h44] at pk
        obtain ⟨hiT, _, s1, s2⟩ := wz_sgn hK l2 (by omega) h44 (by decide) (by decide) (by omega)
        obtain ⟨items', value', ritems', us', fr2, at', i2, k', j1, j2, j3, j4, j5⟩ := ih (k + 1) (i' + 1) (b i' + 1) (u + 1) M1 (M2 + 1) (upd items u v) (upd value x (Int32.ofNat (k + 1))) (upd ritems (6400 + 20 * x + k) v) fr' (by omega) (by omega) (by omega) (by omega) (by omega) (by omega) (by omega) (by omega) wq_upd1 hit'
        have cs : xf_mr_readList_93 begin_ digits end_ first (Int32.ofNat T) (xf_mr_readList_66 begin_ digits end_ first (Int32.ofNat T) N M1) N items sort start (Int32.ofNat u) value (Int32.ofNat i') (Int32.ofNat x) (Int32.ofNat kd) (Int32.ofNat k) v = xf_mr_readList_66 begin_ digits end_ first (Int32.ofNat T) N M1 (upd items u v) sort start (Int32.ofNat (u + 1)) (upd value x (Int32.ofNat (k + 1))) (Int32.ofNat (i' + 1)) (Int32.ofNat x) (Int32.ofNat kd) (Int32.ofNat (k + 1)) := by
          rw [xf_mr_readList_93_s]
          simp (disch := omega) only [wq_ltT, wq_ltF, wq_inT, wq_clamp, wq_eqF, wq_eqm, wq_meq, wq_add, wq_mul, wq_subT, eq_self, Bool.false_eq_true, ↓reduceIte, Option.bind_some, Sum.elim_inl, Sum.elim_inr, ↓wq_f0b, ↓wq_f1b, ↓wq_f2b, ↓wq_r0b, ↓wq_r1b, ↓Option.bind_some, l5, ↓wq_b ad, ↓wq_b tk1, ↓wq_b tk2]
        have rs : xf_rf_list_144 (Int32.ofNat E) text (xf_rf_list_43 (Int32.ofNat E) text N (M2 + 1)) N (Int32.ofNat (st i')) (-1) fr' ritems sorts values (Int32.ofNat (320 + x)) (Int32.ofNat k) (Int32.ofNat (6400 + 20 * x + k)) v = xf_rf_list_43 (Int32.ofNat E) text N (M2 + 1) (Int32.ofNat (b i' + 1)) (-1) fr' (upd ritems (6400 + 20 * x + k) v) sorts values (Int32.ofNat (320 + x)) (Int32.ofNat (k + 1)) (Int32.ofNat 1) := by
          rw [xf_rf_list_144_s]
          simp (disch := omega) only [wq_ltT, wq_ltF, wq_inT, wq_clamp, wq_eqF, wq_eqm, wq_meq, wq_add, wq_mul, wq_subT, eq_self, Bool.false_eq_true, ↓reduceIte, Option.bind_some, Sum.elim_inl, Sum.elim_inr, ↓wq_f0b, ↓wq_f1b, ↓wq_f2b, ↓wq_r0b, ↓wq_r1b, ↓Option.bind_some, m1, ↓wq_b pk, ↓xf_rf_list_170_s, ↓xf_rf_list_187_s]
        have cs' := cs
        have rs' := rs
        refine ⟨items', value', ritems', us', fr2, at', i2, k', j1, fun y hy => by rw [j2 y hy, wq_upd2 (by omega)], fun y hy => by rw [j3 y hy, wq_upd2 hy], fun y hy => by rw [j4 y hy, wq_upd2 (by omega)], ?_⟩
        rcases j5 with ⟨p', a1, a2, a3, a4, a5, a6, a7, a8, a9, a10, a11⟩ | ⟨a10, a11⟩
        · exact Or.inl ⟨p', a1, by omega, a3, a4, a5, a6, a7, a8, a9, cs.trans a10, rs.trans a11⟩
        · exact Or.inr ⟨cs.trans a10, rs.trans a11⟩
      · rw [if_neg h44] at tk2
        -- the reference goes to the end of the list
        have rs : xf_rf_list_144 (Int32.ofNat E) text (xf_rf_list_43 (Int32.ofNat E) text N (M2 + 1)) N (Int32.ofNat (st i')) (-1) fr' ritems sorts values (Int32.ofNat (320 + x)) (Int32.ofNat k) (Int32.ofNat (6400 + 20 * x + k)) v = xf_rf_list_190 (Int32.ofNat E) text N (Int32.ofNat (b i')) (-1) fr' (upd ritems (6400 + 20 * x + k) v) sorts values (Int32.ofNat (320 + x)) (Int32.ofNat (k + 1)) := by
          rw [xf_rf_list_144_s]
          simp (disch := omega) only [wq_ltT, wq_ltF, wq_inT, wq_clamp, wq_eqF, wq_eqm, wq_meq, wq_add, wq_mul, wq_subT, eq_self, Bool.false_eq_true, ↓reduceIte, Option.bind_some, Sum.elim_inl, Sum.elim_inr, ↓wq_f0b, ↓wq_f1b, ↓wq_f2b, ↓wq_r0b, ↓wq_r1b, ↓Option.bind_some, m1, ↓wq_b pk, ↓xf_rf_list_169_s, ↓xf_rf_list_170_s, ↓xf_rf_list_187_s]
          rw [xf_rf_list_43_s, if_pos rfl]
        have sg := wt_rsign hX hK hN (i := i') (p := b i') (c := 41) l2 hs' (Nat.le_refl _) (by omega)
        by_cases h41 : wt_a ch T b i' = 41
        · rw [if_pos h41] at tk1 sg
          obtain ⟨hiT, _, s1, s2⟩ := wz_sgn hK l2 (by omega) h41 (by decide) (by decide) (by omega)
          refine ⟨upd items u v, upd value x (Int32.ofNat (k + 1)), upd ritems (6400 + 20 * x + k) v, Int32.ofNat (s + (k + 1)), fr', Int32.ofNat (b i' + 1), i' + 1, k + 1, by omega, fun y hy => wq_upd2 (by omega), fun y hy => wq_upd2 hy, fun y hy => wq_upd2 (by omega), Or.inl ⟨b i' + 1, rfl, by omega, by omega, by omega, by omega, by omega, rfl, wq_upd1, hit', ?_, ?_⟩⟩
          · have eu : u + 1 = s + (k + 1) := by omega
            simp (disch := omega) only [↓xf_mr_readList_93_s, wq_ltT, wq_ltF, wq_inT, wq_clamp, wq_eqF, wq_eqm, wq_meq, wq_add, wq_mul, wq_subT, eq_self, Bool.false_eq_true, ↓reduceIte, Option.bind_some, Sum.elim_inl, Sum.elim_inr, ↓wq_f0b, ↓wq_f1b, ↓wq_f2b, ↓wq_r0b, ↓wq_r1b, ↓Option.bind_some, l5, ↓wq_b ad, ↓wq_b tk1, eu]
          · show xf_rf_list_144 _ _ _ _ (Int32.ofNat (st i')) (-1) fr' _ _ _ _ _ _ v = _
            rw [rs, xf_rf_list_190_s]
            simp (disch := omega) only [wq_ltT, wq_ltF, wq_inT, wq_clamp, wq_eqF, wq_eqm, wq_meq, wq_add, wq_mul, wq_subT, eq_self, Bool.false_eq_true, ↓reduceIte, Option.bind_some, Sum.elim_inl, Sum.elim_inr, ↓wq_f0b, ↓wq_f1b, ↓wq_f2b, ↓wq_r0b, ↓wq_r1b, ↓Option.bind_some, ↓wq_b sg]
        · rw [if_neg h41] at tk1 sg
          refine ⟨upd items u v, upd value x (Int32.ofNat (k + 1)), upd ritems (6400 + 20 * x + k) v, Int32.ofNat (u + 1), fr', Int32.ofNat (b i'), i', k + 1, l2, fun y hy => wq_upd2 (by omega), fun y hy => wq_upd2 hy, fun y hy => wq_upd2 (by omega), Or.inr ⟨?_, ?_⟩⟩
          · simp (disch := omega) only [↓xf_mr_readList_93_s, wq_ltT, wq_ltF, wq_inT, wq_clamp, wq_eqF, wq_eqm, wq_meq, wq_add, wq_mul, wq_subT, eq_self, Bool.false_eq_true, ↓reduceIte, Option.bind_some, Sum.elim_inl, Sum.elim_inr, ↓wq_f0b, ↓wq_f1b, ↓wq_f2b, ↓wq_r0b, ↓wq_r1b, ↓Option.bind_some, l5, ↓wq_b ad, ↓wq_b tk1, ↓wq_b tk2]
          · show xf_rf_list_144 _ _ _ _ (Int32.ofNat (st i')) (-1) fr' _ _ _ _ _ _ v = _
            rw [rs, xf_rf_list_190_s]
            simp (disch := omega) only [wq_ltT, wq_ltF, wq_inT, wq_clamp, wq_eqF, wq_eqm, wq_meq, wq_add, wq_mul, wq_subT, eq_self, Bool.false_eq_true, ↓reduceIte, Option.bind_some, Sum.elim_inl, Sum.elim_inr, ↓wq_f0b, ↓wq_f1b, ↓wq_f2b, ↓wq_r0b, ↓wq_r1b, ↓Option.bind_some, ↓wq_b sg]
    · -- none
      rw [l6, Option.bind_some]
      have hb' := wt_b_le hK l1
      have fn' : ¬ Int32.ofNat (b i') = -1 := fun hh => (fne _ (by omega)).mp hh
      have cf : xf_mr_readList_93 begin_ digits end_ first (Int32.ofNat T) (xf_mr_readList_66 begin_ digits end_ first (Int32.ofNat T) N M1) N items sort start (Int32.ofNat u) value (Int32.ofNat i') (Int32.ofNat x) (Int32.ofNat kd) (Int32.ofNat k) (-2000000000) = some (Int32.ofNat 0, items, sort, start, Int32.ofNat u, value, Int32.ofNat i') := by
        rw [xf_mr_readList_93_s, if_pos rfl]
      rcases l7 with ⟨hb0, rfl⟩ | ⟨hb1, v, at_, fr', l7⟩
      · refine ⟨items, value, ritems, Int32.ofNat u, fr, Int32.ofNat (b i'), i', k, l1, fun _ _ => rfl, fun _ _ => rfl, fun _ _ => rfl, Or.inr ⟨cf, ?_⟩⟩
        rw [← stop M2 (Int32.ofNat (b i')) (Int32.ofNat (b i')) fr (Int32.ofNat 1) ritems k fn', hb0]
        simp (disch := omega) only [↓xf_rf_list_89_s, ↓xf_rf_list_102_s, ↓xf_rf_list_187_s, wq_ltT, wq_ltF, wq_inT, wq_clamp, wq_eqF, wq_eqm, wq_meq, wq_add, wq_mul, wq_subT, eq_self, Bool.false_eq_true, ↓reduceIte, Option.bind_some, Sum.elim_inl, Sum.elim_inr, ↓wq_f0b, ↓wq_f1b, ↓wq_f2b, ↓wq_r0b, ↓wq_r1b, ↓Option.bind_some, m1, ↓xf_rf_wrongAt_13_s, ↓xf_rf_wrongAt_s]
      · rw [rs1 hb1, l7, Option.bind_some]
        refine ⟨items, value, upd ritems (6400 + 20 * x + k) v, Int32.ofNat u, fr', at_, i', k + 1, l1, fun _ _ => rfl, fun _ _ => rfl, fun y hy => wq_upd2 (by omega), Or.inr ⟨cf, ?_⟩⟩
        show xf_rf_list_144 _ _ _ _ at_ (Int32.ofNat (b i')) fr' _ _ _ _ _ _ v = _
        rw [← stop M2 at_ (Int32.ofNat (b i')) fr' (Int32.ofNat 0) (upd ritems (6400 + 20 * x + k) v) (k + 1) fn', xf_rf_list_144_s]
        simp (disch := omega) only [wq_ltT, wq_ltF, wq_inT, wq_clamp, wq_eqF, wq_eqm, wq_meq, wq_add, wq_mul, wq_subT, eq_self, Bool.false_eq_true, ↓reduceIte, Option.bind_some, Sum.elim_inl, Sum.elim_inr, ↓wq_f0b, ↓wq_f1b, ↓wq_f2b, ↓wq_r0b, ↓wq_r1b, ↓Option.bind_some, fn', ↓xf_rf_list_169_s, ↓xf_rf_list_170_s, ↓xf_rf_list_187_s]
/-- a list -/
theorem wz_arg40 (hX : wt_X E ch signs text) (hK : wt_Tok ch E false T b st o begin_ end_ first digits) {N : Nat} (hN : 1300 ≤ N) {i p u x : Nat} (hi : i ≤ T) (h1 : st i ≤ p) (h2 : p ≤ b i) (hu : u ≤ st i) (hx : x < 320) (from_ : Int32) (sort value start items sorts values ritems : Nat → Int32) (h40 : wt_a ch T b i = 40) : wz_Res T x u i b st sort value start items sorts values ritems (xf_mr_readArgument begin_ digits end_ first (Int32.ofNat E) signs (Int32.ofNat T) N items sort start (Int32.ofNat u) value (Int32.ofNat i) (Int32.ofNat x)) (xf_rf_argument1 (Int32.ofNat E) text N (Int32.ofNat p) (-1) from_ ritems sorts values (Int32.ofNat (320 + x))) := by
  have ef0 : (fits .boolean (.int (Int32.ofNat 0)) = true) = True := by decide
  have ef1 : (fits .boolean (.int (Int32.ofNat 1)) = true) = True := by decide
  have m1 : ((-1 : Int32) = -1) = True := eq_true rfl
  have hE := hX.1
  have hTE := hK.2.1
  have hb := wt_b_le hK hi
  have hs := wt_st_le hK hi
  have ah := wt_ahead hX hK hi
  have pk := wt_peek hX hK hN hi h1 h2
  have tk := wt_takes hX hK (i := i) (c := 40) hi (by omega) (by omega)
  have sg := wt_rsign hX hK hN (i := i) (p := b i) (c := 40) hi hs (Nat.le_refl _) (by omega)
  rw [h40] at ah pk
  rw [if_pos h40] at tk sg
  have bg := wz_begins (c := 40) (by omega)
  rw [if_neg (by decide)] at bg
  obtain ⟨hiT, _, s1, s2⟩ := wz_sgn hK hi (by omega) h40 (by decide) (by decide) (by omega)
  have hb1 := wt_b_le hK (i := i + 1) (by omega)
  have ah1 := wt_ahead hX hK (i := i + 1) (by omega)
  have ab1 := wt_a_lt hX hK (i + 1)
  have pk1 := wt_peek hX hK hN (i := i + 1) (p := b i + 1) (by omega) (by omega) (by omega)
  have tk1 := wt_takes hX hK (i := i + 1) (c := 41) (by omega) (by omega) (by omega)
  have hs1 := wt_st_le hK (i := i + 1) (by omega)
  have sg1 := wt_rsign hX hK hN (i := i + 1) (p := b (i + 1)) (c := 41) (by omega) hs1 (Nat.le_refl _) (by omega)
  -- the kind of list
  have kinds : ∃ kd, (kd = 0 ∨ kd = 1) ∧ (kd = 1 → wt_a ch T b (i + 1) = 35) ∧
      xf_mr_readArgument begin_ digits end_ first (Int32.ofNat E) signs (Int32.ofNat T) N items sort start (Int32.ofNat u) value (Int32.ofNat i) (Int32.ofNat x) = ((xf_mr_readList_46 begin_ digits end_ first (Int32.ofNat T) N items sort start (Int32.ofNat u) value (Int32.ofNat (i + 1)) (Int32.ofNat x) (Int32.ofNat kd) (Int32.ofNat x) (Int32.ofNat (3 + kd))).bind fun q270 => if fits .boolean (.int q270.1) = true then some (q270.1, q270.2.1, q270.2.2.1, q270.2.2.2.1, q270.2.2.2.2.1, q270.2.2.2.2.2.1, q270.2.2.2.2.2.2) else none) ∧
      xf_rf_argument1 (Int32.ofNat E) text N (Int32.ofNat p) (-1) from_ ritems sorts values (Int32.ofNat (320 + x)) = ((xf_rf_list_29 (Int32.ofNat E) text N (Int32.ofNat (b (i + 1))) (-1) from_ ritems sorts (upd values (320 + x) (Int32.ofNat 0)) (Int32.ofNat (320 + x)) (Int32.ofNat 0) (Int32.ofNat (wt_a ch T b (i + 1))) (Int32.ofNat (320 + x)) (Int32.ofNat (3 + kd))).bind fun q883 => xf_rf_argument1_178 (Int32.ofNat E) text N q883.2.1 q883.2.2.1 q883.2.2.2.1 q883.2.2.2.2.1 q883.2.2.2.2.2.1 q883.2.2.2.2.2.2) := by
    by_cases h35 : wt_a ch T b (i + 1) = 35
    · refine ⟨1, Or.inr rfl, fun _ => h35, ?_, ?_⟩
      · rw [xf_mr_readArgument_s]
        simp (disch := omega) only [wq_ltT, wq_ltF, wq_inT, wq_clamp, wq_eqF, wq_eqm, wq_meq, wq_add, wq_mul, wq_subT, eq_self, Bool.false_eq_true, ↓reduceIte, Option.bind_some, Sum.elim_inl, Sum.elim_inr, ↓wq_f0b, ↓wq_f1b, ↓wq_f2b, ↓wq_r0b, ↓wq_r1b, ↓Option.bind_some, ↓wq_b ah, ↓xf_mr_readList_s, ↓wq_b tk, ↓wq_b ah1, h35, ↓xf_mr_readList_31_s, Nat.reduceAdd]
      · rw [xf_rf_argument1_s]
        simp (disch := omega) only [wq_ltT, wq_ltF, wq_inT, wq_clamp, wq_eqF, wq_eqm, wq_meq, wq_add, wq_mul, wq_subT, eq_self, Bool.false_eq_true, ↓reduceIte, Option.bind_some, Sum.elim_inl, Sum.elim_inr, ↓wq_f0b, ↓wq_f1b, ↓wq_f2b, ↓wq_r0b, ↓wq_r1b, ↓Option.bind_some, ↓wq_b pk, ↓wq_b bg, ↓xf_rf_list_s, ↓wq_b sg, ↓wq_b pk1, h35, Nat.reduceAdd]
    · refine ⟨0, Or.inl rfl, fun e => absurd e (by omega), ?_, ?_⟩
      · rw [xf_mr_readArgument_s]
        simp (disch := omega) only [wq_ltT, wq_ltF, wq_inT, wq_clamp, wq_eqF, wq_eqm, wq_meq, wq_add, wq_mul, wq_subT, eq_self, Bool.false_eq_true, ↓reduceIte, Option.bind_some, Sum.elim_inl, Sum.elim_inr, ↓wq_f0b, ↓wq_f1b, ↓wq_f2b, ↓wq_r0b, ↓wq_r1b, ↓Option.bind_some, ↓wq_b ah, ↓xf_mr_readList_s, ↓wq_b tk, ↓wq_b ah1, ↓xf_mr_readList_31_s, Nat.add_zero]
      · rw [xf_rf_argument1_s]
        simp (disch := omega) only [wq_ltT, wq_ltF, wq_inT, wq_clamp, wq_eqF, wq_eqm, wq_meq, wq_add, wq_mul, wq_subT, eq_self, Bool.false_eq_true, ↓reduceIte, Option.bind_some, Sum.elim_inl, Sum.elim_inr, ↓wq_f0b, ↓wq_f1b, ↓wq_f2b, ↓wq_r0b, ↓wq_r1b, ↓Option.bind_some, ↓wq_b pk, ↓wq_b bg, ↓xf_rf_list_s, ↓wq_b sg, ↓wq_b pk1, Nat.add_zero]
  obtain ⟨kd, hkd, hk35, ec, er⟩ := kinds
  have pt := wz_putm hx (Int32.ofNat u) sort start value (Int32.ofNat (3 + kd)) (Int32.ofNat 0)
  have wv : ∀ (c : Nat) (v : Int32) (it : Nat → Int32), c ≤ 6 → v = Int32.ofNat c → (∀ y, y < c → wz_G kd (it y)) → wz_v (3 + kd) c v it := by
    intro c v it hc hv hit
    refine ⟨by omega, by omega, fun e => absurd e (by omega), fun e => absurd e (by omega), fun e => absurd e (by omega), fun e => ⟨hv, hc, fun y hy => ?_⟩, fun e => ⟨hv, hc, fun y hy => ?_⟩, fun e => absurd e (by omega), fun e => absurd e (by omega)⟩
    · have := hit y hy
      unfold wz_G at this
      rw [if_pos (by omega)] at this
      exact this
    · have := hit y hy
      unfold wz_G at this
      rw [if_neg (by omega)] at this
      exact this
  by_cases h41 : wt_a ch T b (i + 1) = 41
  · -- an empty list
    rw [if_pos h41] at tk1 sg1
    obtain ⟨hiT1, _, s3, s4⟩ := wz_sgn hK (i := i + 1) (by omega) (by omega) h41 (by decide) (by decide) (by omega)
    have s3' : st (i + 2) = b (i + 1) + 1 := s3
    have s4' : b (i + 1) + 1 ≤ b (i + 2) := s4
    refine ⟨items, upd sort x (Int32.ofNat (3 + kd)), upd start x (Int32.ofNat u), upd value x (Int32.ofNat 0), upd sorts (320 + x) (Int32.ofNat (3 + kd)), upd (upd values (320 + x) (Int32.ofNat 0)) (320 + x) (Int32.ofNat 0), ritems, Int32.ofNat u, from_, i + 2, by omega, wz_F1 (fun y hy => wq_upd2 hy) (fun _ _ => rfl) (fun y hy => by rw [wq_upd2 hy, wq_upd2 hy]) (fun _ _ => rfl) _ _ _, Or.inl ⟨u, 3 + kd, 0, u, b (i + 1) + 1, by omega, by omega, by omega, by omega, by omega, by omega, ⟨wq_upd1, wq_upd1, by rw [wq_upd1, wq_upd1], wq_upd1, by omega, fun y hy => absurd hy (by omega), wv 0 _ _ (by omega) wq_upd1 (fun y hy => absurd hy (by omega))⟩, ?_, ?_⟩⟩
    · rw [ec]
      simp (disch := omega) only [↓xf_mr_readList_46_s, wq_ltT, wq_ltF, wq_inT, wq_clamp, wq_eqF, wq_eqm, wq_meq, wq_add, wq_mul, wq_subT, eq_self, Bool.false_eq_true, ↓reduceIte, Option.bind_some, Sum.elim_inl, Sum.elim_inr, ↓wq_f0b, ↓wq_f1b, ↓wq_f2b, ↓wq_r0b, ↓wq_r1b, ↓Option.bind_some, ↓wq_b pt, ↓wq_b tk1, ef1, Nat.add_assoc, Nat.reduceAdd]
    · rw [er]
      obtain ⟨N', rfl⟩ : ∃ N', N = N' + 1 := ⟨N - 1, by omega⟩
      simp (disch := omega) only [↓xf_rf_list_29_s, ↓xf_rf_list_41_s, ↓xf_rf_list_43_s, ↓xf_rf_list_190_s, ↓xf_rf_argument1_178_s, wq_ltT, wq_ltF, wq_inT, wq_clamp, wq_eqF, wq_eqm, wq_meq, wq_add, wq_mul, wq_subT, eq_self, Bool.false_eq_true, ↓reduceIte, Option.bind_some, Sum.elim_inl, Sum.elim_inr, ↓wq_f0b, ↓wq_f1b, ↓wq_f2b, ↓wq_r0b, ↓wq_r1b, ↓Option.bind_some, h41, ↓wq_b sg1]
  · rw [if_neg h41] at tk1
    obtain ⟨items', value', ri, us', fr', at', i', k', j1, j2, j3, j4, j5⟩ := wz_items hX hK hN hkd hx (s := u) (upd sort x (Int32.ofNat (3 + kd))) (upd start x (Int32.ofNat u)) (upd sorts (320 + x) (Int32.ofNat (3 + kd))) (upd values (320 + x) (Int32.ofNat 0)) wq_upd1 6 0 (i + 1) (b (i + 1)) u N N items (upd value x (Int32.ofNat 0)) ritems from_ (by omega) (by omega) hs1 (Nat.le_refl _) (by omega) (by omega) (by omega) (by omega) wq_upd1 (fun y hy => absurd hy (by omega))
    have hF : wz_F x u sort value start items sorts values ritems (upd sort x (Int32.ofNat (3 + kd))) value' (upd start x (Int32.ofNat u)) items' (upd sorts (320 + x) (Int32.ofNat (3 + kd))) (upd (upd values (320 + x) (Int32.ofNat 0)) (320 + x) (Int32.ofNat k')) ri := wz_F1 (fun y hy => by rw [j3 y hy, wq_upd2 hy]) j2 (fun y hy => by rw [wq_upd2 hy, wq_upd2 hy]) j4 _ _ _
    have c46 : xf_mr_readList_46 begin_ digits end_ first (Int32.ofNat T) N items sort start (Int32.ofNat u) value (Int32.ofNat (i + 1)) (Int32.ofNat x) (Int32.ofNat kd) (Int32.ofNat x) (Int32.ofNat (3 + kd)) = xf_mr_readList_66 begin_ digits end_ first (Int32.ofNat T) N N items (upd sort x (Int32.ofNat (3 + kd))) (upd start x (Int32.ofNat u)) (Int32.ofNat u) (upd value x (Int32.ofNat 0)) (Int32.ofNat (i + 1)) (Int32.ofNat x) (Int32.ofNat kd) (Int32.ofNat 0) := by
      rw [xf_mr_readList_46_s]
      simp (disch := omega) only [wq_ltT, wq_ltF, wq_inT, wq_clamp, wq_eqF, wq_eqm, wq_meq, wq_add, wq_mul, wq_subT, eq_self, Bool.false_eq_true, ↓reduceIte, Option.bind_some, Sum.elim_inl, Sum.elim_inr, ↓wq_f0b, ↓wq_f1b, ↓wq_f2b, ↓wq_r0b, ↓wq_r1b, ↓Option.bind_some, ↓wq_b pt, ↓wq_b tk1]
    have r29 : xf_rf_list_29 (Int32.ofNat E) text N (Int32.ofNat (b (i + 1))) (-1) from_ ritems sorts (upd values (320 + x) (Int32.ofNat 0)) (Int32.ofNat (320 + x)) (Int32.ofNat 0) (Int32.ofNat (wt_a ch T b (i + 1))) (Int32.ofNat (320 + x)) (Int32.ofNat (3 + kd)) = xf_rf_list_43 (Int32.ofNat E) text N N (Int32.ofNat (b (i + 1))) (-1) from_ ritems (upd sorts (320 + x) (Int32.ofNat (3 + kd))) (upd values (320 + x) (Int32.ofNat 0)) (Int32.ofNat (320 + x)) (Int32.ofNat 0) (Int32.ofNat 1) := by
      rw [xf_rf_list_29_s]
      simp (disch := omega) only [wq_ltT, wq_ltF, wq_inT, wq_clamp, wq_eqF, wq_eqm, wq_meq, wq_add, wq_mul, wq_subT, eq_self, Bool.false_eq_true, ↓reduceIte, Option.bind_some, Sum.elim_inl, Sum.elim_inr, ↓wq_f0b, ↓wq_f1b, ↓wq_f2b, ↓wq_r0b, ↓wq_r1b, ↓Option.bind_some, ↓xf_rf_list_41_s]
    rcases j5 with ⟨p', a1, a2, a3, a4, a5, a6, a7, a8, a9, a10, a11⟩ | ⟨a10, a11⟩
    · refine ⟨items', _, _, value', _, _, ri, us', fr', i', j1, hF, Or.inl ⟨u + k', 3 + kd, k', u, p', by omega, by omega, by omega, a5, a3, a4, ⟨wq_upd1, wq_upd1, by rw [wq_upd1, a8], wq_upd1, by omega, fun y hy => (a9 y hy).1, wv k' _ _ a6 wq_upd1 (fun y hy => (a9 y hy).2)⟩, ?_, ?_⟩⟩
      · rw [ec, c46, a10, a7, Option.bind_some, if_pos (of_eq_true ef1)]
      · rw [er, r29, a11, a1, Option.bind_some, xf_rf_argument1_178_s]
    · refine ⟨items', _, _, value', _, _, ri, us', fr', i', j1, hF, Or.inr ⟨at', ?_, ?_⟩⟩
      · rw [ec, c46, a10, Option.bind_some, if_pos (of_eq_true ef0)]
      · rw [er, r29, a11, Option.bind_some, xf_rf_argument1_178_s]
/-- any argument -/
theorem wz_arg (hX : wt_X E ch signs text) (hK : wt_Tok ch E false T b st o begin_ end_ first digits) {N : Nat} (hN : 1300 ≤ N) {i p u x : Nat} (hi : i ≤ T) (h1 : st i ≤ p) (h2 : p ≤ b i) (hu : u ≤ st i) (hx : x < 320) (from_ : Int32) (sort value start items sorts values ritems : Nat → Int32) : wz_Res T x u i b st sort value start items sorts values ritems (xf_mr_readArgument begin_ digits end_ first (Int32.ofNat E) signs (Int32.ofNat T) N items sort start (Int32.ofNat u) value (Int32.ofNat i) (Int32.ofNat x)) (xf_rf_argument1 (Int32.ofNat E) text N (Int32.ofNat p) (-1) from_ ritems sorts values (Int32.ofNat (320 + x))) := by
  by_cases h36 : wt_a ch T b i = 36
  · exact wz_arg36 hX hK hN hi h1 h2 hu hx from_ sort value start items sorts values ritems h36
  by_cases h39 : wt_a ch T b i = 39
  · exact wz_arg39 hX hK hN hi h1 h2 hu hx from_ sort value start items sorts values ritems h39
  by_cases h46 : wt_a ch T b i = 46
  · exact wz_arg46 hX hK hN hi h1 h2 hu hx from_ sort value start items sorts values ritems h46
  by_cases h40 : wt_a ch T b i = 40
  · exact wz_arg40 hX hK hN hi h1 h2 hu hx from_ sort value start items sorts values ritems h40
  by_cases h35 : wt_a ch T b i = 35
  · exact wz_arg35 hX hK hN hi h1 h2 hu hx from_ sort value start items sorts values ritems h35
  exact wz_argN hX hK hN hi h1 h2 hu hx from_ sort value start items sorts values ritems h36 h39 h46 h40 h35
end
