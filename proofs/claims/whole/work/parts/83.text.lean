/-! READ: one argument; texts and words. -/
theorem wz_addItem {u x : Nat} (hu : u < 1200) (hx : x < 320) (items value : Nat → Int32) (v : Int32) : xf_md_addItem items (Int32.ofNat u) value (Int32.ofNat x) v = some ((), upd items u v, Int32.ofNat (u + 1), upd value x (value x + Int32.ofNat 1)) := by
  simp (disch := omega) only [↓xf_md_addItem_42_s, ↓xf_md_addItem_s, wq_ltT, wq_ltF, wq_inT, wq_clamp, wq_eqF, wq_eqm, wq_meq, wq_add, wq_mul, wq_subT, eq_self, Bool.false_eq_true, ↓reduceIte, Option.bind_some, Sum.elim_inl, Sum.elim_inr, ↓wq_f0b, ↓wq_f1b, ↓wq_f2b, ↓wq_r0b, ↓wq_r1b, ↓Option.bind_some]
theorem wz_putm {x : Nat} (hx : x < 320) (us : Int32) (sort start value : Nat → Int32) (t v : Int32) : xf_md_put us sort start value (Int32.ofNat x) t v = some ((), upd sort x t, upd start x us, upd value x v) := by
  simp (disch := omega) only [↓xf_md_put_s, wq_ltT, wq_ltF, wq_inT, wq_clamp, wq_eqF, wq_eqm, wq_meq, wq_add, wq_mul, wq_subT, eq_self, Bool.false_eq_true, ↓reduceIte, Option.bind_some, Sum.elim_inl, Sum.elim_inr, ↓wq_f0b, ↓wq_f1b, ↓wq_f2b, ↓wq_r0b, ↓wq_r1b, ↓Option.bind_some]
/-- how many characters a text has, from j on -/
def wz_n (ch : Nat → Nat) (E : Nat) : Nat → Nat → Nat
  | 0, _ => 0
  | l + 1, j => if ch j = 39 then (if wt_c ch E (j + 1) = 39 then wz_n ch E l (j + 2) + 1 else 0) else wz_n ch E l (j + 1) + 1
/-- and which -/
def wz_g (ch : Nat → Nat) : Nat → Nat → Nat
  | 0, j => ch j
  | x + 1, j => wz_g ch x (if ch j = 39 then j + 2 else j + 1)
/-- an argument's value and items, by its sort -/
def wz_v (t c : Nat) (v : Int32) (it : Nat → Int32) : Prop :=
  t ≤ 6 ∧ c ≤ 20 ∧
  (t = 0 → c = 0 ∧ ¬ v < -999999999 ∧ ¬ Int32.ofNat 999999999 < v) ∧
  (t = 1 → v = Int32.ofNat c ∧ ∀ i, i < c → ∃ k, 32 ≤ k ∧ k ≤ 126 ∧ it i = Int32.ofNat k) ∧
  (t = 2 → c = 0 ∧ ∃ w, 1 ≤ w ∧ w ≤ 999 ∧ v = Int32.ofNat w) ∧
  (t = 3 → v = Int32.ofNat c ∧ c ≤ 6 ∧ ∀ i, i < c → ¬ it i < -999999999 ∧ ¬ Int32.ofNat 999999999 < it i) ∧
  (t = 4 → v = Int32.ofNat c ∧ c ≤ 6 ∧ ∀ i, i < c → ∃ w, 1 ≤ w ∧ w ≤ 999 ∧ it i = Int32.ofNat w) ∧
  (t = 5 → v = Int32.ofNat c ∧ c ≤ 8 ∧ ∀ i, i < c → ∃ k, 65 ≤ k ∧ k ≤ 90 ∧ it i = Int32.ofNat k) ∧
  (t = 6 → c = 0 ∧ v = Int32.ofNat 0)
/-- an argument as both sides hold it -/
def wz_a (x u t c s : Nat) (sort value start items sorts values ritems : Nat → Int32) : Prop :=
  sort x = Int32.ofNat t ∧ sorts (320 + x) = Int32.ofNat t ∧ value x = values (320 + x) ∧ start x = Int32.ofNat s ∧ s + c ≤ u ∧ (∀ i, i < c → items (s + i) = ritems (6400 + 20 * x + i)) ∧ wz_v t c (values (320 + x)) (fun i => ritems (6400 + 20 * x + i))
/-- nothing else is changed -/
def wz_F (x u : Nat) (sort value start items sorts values ritems sort' value' start' items' sorts' values' ritems' : Nat → Int32) : Prop :=
  (∀ y, y ≠ x → sort' y = sort y ∧ value' y = value y ∧ start' y = start y) ∧ (∀ y, y < u → items' y = items y) ∧ (∀ y, y ≠ 320 + x → sorts' y = sorts y ∧ values' y = values y) ∧ (∀ y, y < 6400 + 20 * x ∨ 6400 + 20 * x + 20 ≤ y → ritems' y = ritems y)
/-- one argument read by both -/
def wz_Res (T x u i : Nat) (b st : Nat → Nat) (sort value start items sorts values ritems : Nat → Int32) (C : Option (Int32 × (Nat → Int32) × (Nat → Int32) × (Nat → Int32) × Int32 × (Nat → Int32) × Int32)) (Rf : Option (Unit × Int32 × Int32 × Int32 × (Nat → Int32) × (Nat → Int32) × (Nat → Int32))) : Prop :=
  ∃ (items' sort' start' value' sorts' values' ritems' : Nat → Int32) (us' fr' : Int32) (i' : Nat), i' ≤ T ∧ wz_F x u sort value start items sorts values ritems sort' value' start' items' sorts' values' ritems' ∧
    ((∃ u' t c s p', i < i' ∧ u ≤ s ∧ s ≤ u' ∧ u' ≤ st i' ∧ st i' ≤ p' ∧ p' ≤ b i' ∧ wz_a x u' t c s sort' value' start' items' sorts' values' ritems' ∧ C = some (Int32.ofNat 1, items', sort', start', Int32.ofNat u', value', Int32.ofNat i') ∧ Rf = some ((), Int32.ofNat p', -1, fr', ritems', sorts', values')) ∨
     (∃ at', C = some (Int32.ofNat 0, items', sort', start', us', value', Int32.ofNat i') ∧ Rf = some ((), at', Int32.ofNat (b i'), fr', ritems', sorts', values')))
section
variable {E T : Nat} {ch : Nat → Nat} {signs text : Nat → Int32} {b st : Nat → Nat} {o : Nat → Bool} {begin_ end_ first digits : Nat → Int32}
/-- one step of a text -/
theorem wz_tx1 {j r : Nat} (h : wt_tx ch E j = some r) : j < E ∧ ((ch j = 39 ∧ wt_c ch E (j + 1) = 39 ∧ j + 1 < E ∧ wt_tx ch E (j + 2) = some r) ∨ (ch j = 39 ∧ wt_c ch E (j + 1) ≠ 39 ∧ r = j + 1) ∨ (ch j ≠ 39 ∧ wt_tx ch E (j + 1) = some r)) := by
  rw [wt_tx] at h
  by_cases hE : j < E
  · rw [dif_pos hE] at h
    refine ⟨hE, ?_⟩
    by_cases h39 : ch j = 39
    · rw [if_pos h39] at h
      by_cases h2 : wt_c ch E (j + 1) = 39
      · rw [if_pos h2] at h
        refine Or.inl ⟨h39, h2, ?_, h⟩
        apply Classical.byContradiction
        intro hc
        unfold wt_c at h2
        rw [if_neg hc] at h2
        omega
      · rw [if_neg h2] at h
        exact Or.inr (Or.inl ⟨h39, h2, (Option.some.inj h).symm⟩)
    · rw [if_neg h39] at h
      exact Or.inr (Or.inr ⟨h39, h⟩)
  · rw [dif_neg hE] at h
    exact absurd h (by simp)
theorem wz_n_le : ∀ l j r, E ≤ j + l → wt_tx ch E j = some r → j + wz_n ch E l j + 1 ≤ r := by
  intro l
  induction l with
  | zero =>
    intro j r hj h
    have := (wz_tx1 h).1
    omega
  | succ l ih =>
    intro j r hj h
    obtain ⟨hE, h1⟩ := wz_tx1 h
    rw [wz_n]
    rcases h1 with ⟨a1, a2, _, a3⟩ | ⟨a1, a2, a3⟩ | ⟨a1, a3⟩
    · rw [if_pos a1, if_pos a2]
      have := ih (j + 2) r (by omega) a3
      omega
    · rw [if_pos a1, if_neg a2]
      omega
    · rw [if_neg a1]
      have := ih (j + 1) r (by omega) a3
      omega
theorem wz_g_in (hX : wt_X E ch signs text) : ∀ l j r, E ≤ j + l → wt_tx ch E j = some r → ∀ y, y < wz_n ch E l j → 32 ≤ wz_g ch y j ∧ wz_g ch y j ≤ 126 := by
  intro l
  induction l with
  | zero =>
    intro j r hj h y hy
    exact absurd hy (Nat.not_lt_zero _)
  | succ l ih =>
    intro j r hj h y hy
    obtain ⟨hE, h1⟩ := wz_tx1 h
    rw [wz_n] at hy
    have c1 := (hX.2 j hE).2.2
    rcases h1 with ⟨a1, a2, _, a3⟩ | ⟨a1, a2, a3⟩ | ⟨a1, a3⟩
    · rw [if_pos a1, if_pos a2] at hy
      cases y with
      | zero => exact c1
      | succ y =>
        rw [wz_g, if_pos a1]
        exact ih (j + 2) r (by omega) a3 y (by omega)
    · rw [if_pos a1, if_neg a2] at hy
      omega
    · rw [if_neg a1] at hy
      cases y with
      | zero => exact c1
      | succ y =>
        rw [wz_g, if_neg a1]
        exact ih (j + 1) r (by omega) a3 y (by omega)
theorem wz_tsize (hX : wt_X E ch signs text) {N i r : Nat} (hi : i < 1200) (hr : end_ i = Int32.ofNat r) (hrE : r ≤ E) : ∀ l j k M, E ≤ j + l → wt_tx ch E j = some r → l < M → k ≤ j → xf_wd_textSize_38 begin_ end_ first (Int32.ofNat i) (Int32.ofNat E) signs (Int32.ofNat T) N M (Int32.ofNat k) (Int32.ofNat j) = some (Int32.ofNat (k + wz_n ch E l j)) := by
  have hE := hX.1
  have hch : ∀ j, j < E → signs j = Int32.ofNat (ch j) ∧ 32 ≤ ch j ∧ ch j ≤ 126 := fun j hj => ⟨(hX.2 j hj).1, (hX.2 j hj).2.2⟩
  intro l
  induction l with
  | zero =>
    intro j k M hj h
    have := (wz_tx1 h).1
    omega
  | succ l ih =>
    intro j k M hj h hM hkj
    obtain ⟨M', rfl⟩ : ∃ M', M = M' + 1 := ⟨M - 1, by omega⟩
    obtain ⟨hjE, h1⟩ := wz_tx1 h
    have e1 := wt_sign hE hch (j := j) (by omega)
    have cj : wt_c ch E j = ch j := if_pos hjE
    rw [cj] at e1
    have c1 := (hX.2 j hjE).2.2
    have nl := wz_n_le (l + 1) j r hj h
    rw [wz_n] at nl ⊢
    rcases h1 with ⟨a1, a2, _, a3⟩ | ⟨a1, a2, a3⟩ | ⟨a1, a3⟩
    · rw [if_pos a1, if_pos a2] at nl ⊢
      rw [a1] at e1
      have key := ih (j + 2) (k + 1) M' (by omega) a3 (by omega) (by omega)
      rw [show k + (wz_n ch E l (j + 2) + 1) = k + 1 + wz_n ch E l (j + 2) by omega, ← key, xf_wd_textSize_38_s]
      simp (disch := omega) only [↓xf_wd_textSize_72_s, wq_ltT, wq_ltF, wq_inT, wq_clamp, wq_eqF, wq_eqm, wq_meq, wq_add, wq_mul, wq_subT, eq_self, Bool.false_eq_true, ↓reduceIte, Option.bind_some, Sum.elim_inl, Sum.elim_inr, ↓wq_f0b, ↓wq_f1b, ↓wq_f2b, ↓wq_r0b, ↓wq_r1b, ↓Option.bind_some, hr, ↓wq_b e1, Nat.add_assoc, Nat.reduceAdd]
    · rw [if_pos a1, if_neg a2] at nl ⊢
      simp (disch := omega) only [↓xf_wd_textSize_38_s, wq_ltT, wq_ltF, wq_inT, wq_clamp, wq_eqF, wq_eqm, wq_meq, wq_add, wq_mul, wq_subT, eq_self, Bool.false_eq_true, ↓reduceIte, Option.bind_some, Sum.elim_inl, Sum.elim_inr, ↓wq_f0b, ↓wq_f1b, ↓wq_f2b, ↓wq_r0b, ↓wq_r1b, ↓Option.bind_some, hr, Nat.add_zero]
    · rw [if_neg a1] at nl ⊢
      have key := ih (j + 1) (k + 1) M' (by omega) a3 (by omega) (by omega)
      rw [show k + (wz_n ch E l (j + 1) + 1) = k + 1 + wz_n ch E l (j + 1) by omega, ← key, xf_wd_textSize_38_s]
      simp (disch := omega) only [↓xf_wd_textSize_72_s, wq_ltT, wq_ltF, wq_inT, wq_clamp, wq_eqF, wq_eqm, wq_meq, wq_add, wq_mul, wq_subT, eq_self, Bool.false_eq_true, ↓reduceIte, Option.bind_some, Sum.elim_inl, Sum.elim_inr, ↓wq_f0b, ↓wq_f1b, ↓wq_f2b, ↓wq_r0b, ↓wq_r1b, ↓Option.bind_some, hr, ↓wq_b e1, Nat.add_zero]
theorem wz_take (hX : wt_X E ch signs text) {N i r x : Nat} (hi : i < 1200) (hx : x < 320) (hr : end_ i = Int32.ofNat r) (hrE : r ≤ E) : ∀ l j k u M (items value : Nat → Int32), E ≤ j + l → wt_tx ch E j = some r → l < M → u + wz_n ch E l j ≤ 1200 → value x = Int32.ofNat k →
    ∃ items' value' : Nat → Int32, (∀ y, y < u → items' y = items y) ∧ (∀ y, y < wz_n ch E l j → items' (u + y) = Int32.ofNat (wz_g ch y j)) ∧ (∀ y, y ≠ x → value' y = value y) ∧ value' x = Int32.ofNat (k + wz_n ch E l j) ∧
      xf_wd_takeText_22 begin_ end_ first (Int32.ofNat E) signs (Int32.ofNat T) N M items (Int32.ofNat u) value (Int32.ofNat i) (Int32.ofNat x) (Int32.ofNat j) = some ((), items', Int32.ofNat (u + wz_n ch E l j), value', Int32.ofNat (i + 1)) := by
  have hE := hX.1
  have hch : ∀ j, j < E → signs j = Int32.ofNat (ch j) ∧ 32 ≤ ch j ∧ ch j ≤ 126 := fun j hj => ⟨(hX.2 j hj).1, (hX.2 j hj).2.2⟩
  intro l
  induction l with
  | zero =>
    intro j k u M items value hj h
    have := (wz_tx1 h).1
    omega
  | succ l ih =>
    intro j k u M items value hj h hM hu hv
    obtain ⟨M', rfl⟩ : ∃ M', M = M' + 1 := ⟨M - 1, by omega⟩
    obtain ⟨hjE, h1⟩ := wz_tx1 h
    have e1 := wt_sign hE hch (j := j) (by omega)
    have cj : wt_c ch E j = ch j := if_pos hjE
    rw [cj] at e1
    have c1 := (hX.2 j hjE).2.2
    have nl := wz_n_le (l + 1) j r hj h
    rw [wz_n] at nl hu ⊢
    rcases h1 with ⟨a1, a2, a4, a3⟩ | ⟨a1, a2, a3⟩ | ⟨a1, a3⟩
    · rw [if_pos a1, if_pos a2] at nl hu ⊢
      rw [a1] at e1
      have e2 := wt_sign hE hch (j := j + 1) (by omega)
      rw [a2] at e2
      have ad := wz_addItem (u := u) (x := x) (by omega) hx items value (Int32.ofNat 39)
      rw [hv, wq_add] at ad
      obtain ⟨items', value', i1, i2, i3, i4, i5⟩ := ih (j + 2) (k + 1) (u + 1) M' (upd items u (Int32.ofNat 39)) (upd value x (Int32.ofNat (k + 1))) (by omega) a3 (by omega) (by omega) wq_upd1
      refine ⟨items', value', fun y hy => ?_, fun y hy => ?_, fun y hy => ?_, ?_, ?_⟩
      · rw [i1 y (by omega), wq_upd2 (by omega)]
      · cases y with
        | zero =>
          rw [Nat.add_zero, i1 u (by omega), wq_upd1, wz_g, a1]
        | succ y =>
          rw [wz_g, if_pos a1, show u + (y + 1) = u + 1 + y by omega]
          exact i2 y (by omega)
      · rw [i3 y hy, wq_upd2 hy]
      · rw [i4, show k + (wz_n ch E l (j + 2) + 1) = k + 1 + wz_n ch E l (j + 2) by omega]
      · rw [show u + (wz_n ch E l (j + 2) + 1) = u + 1 + wz_n ch E l (j + 2) by omega, ← i5, xf_wd_takeText_22_s]
        simp (disch := omega) only [↓xf_wd_takeText_56_s, wq_ltT, wq_ltF, wq_inT, wq_clamp, wq_eqF, wq_eqm, wq_meq, wq_add, wq_mul, wq_subT, eq_self, Bool.false_eq_true, ↓reduceIte, Option.bind_some, Sum.elim_inl, Sum.elim_inr, ↓wq_f0b, ↓wq_f1b, ↓wq_f2b, ↓wq_r0b, ↓wq_r1b, ↓Option.bind_some, hr, ↓wq_b e1, ↓wq_b e2, ↓wq_b ad, Nat.add_assoc, Nat.reduceAdd]
    · rw [if_pos a1, if_neg a2] at nl hu ⊢
      refine ⟨items, value, fun _ _ => rfl, fun y hy => absurd hy (Nat.not_lt_zero _), fun _ _ => rfl, hv, ?_⟩
      simp (disch := omega) only [↓xf_wd_takeText_22_s, wq_ltT, wq_ltF, wq_inT, wq_clamp, wq_eqF, wq_eqm, wq_meq, wq_add, wq_mul, wq_subT, eq_self, Bool.false_eq_true, ↓reduceIte, Option.bind_some, Sum.elim_inl, Sum.elim_inr, ↓wq_f0b, ↓wq_f1b, ↓wq_f2b, ↓wq_r0b, ↓wq_r1b, ↓Option.bind_some, hr, Nat.add_zero]
    · rw [if_neg a1] at nl hu ⊢
      have ad := wz_addItem (u := u) (x := x) (by omega) hx items value (Int32.ofNat (ch j))
      rw [hv, wq_add] at ad
      obtain ⟨items', value', i1, i2, i3, i4, i5⟩ := ih (j + 1) (k + 1) (u + 1) M' (upd items u (Int32.ofNat (ch j))) (upd value x (Int32.ofNat (k + 1))) (by omega) a3 (by omega) (by omega) wq_upd1
      refine ⟨items', value', fun y hy => ?_, fun y hy => ?_, fun y hy => ?_, ?_, ?_⟩
      · rw [i1 y (by omega), wq_upd2 (by omega)]
      · cases y with
        | zero =>
          rw [Nat.add_zero, i1 u (by omega), wq_upd1, wz_g]
        | succ y =>
          rw [wz_g, if_neg a1, show u + (y + 1) = u + 1 + y by omega]
          exact i2 y (by omega)
      · rw [i3 y hy, wq_upd2 hy]
      · rw [i4, show k + (wz_n ch E l (j + 1) + 1) = k + 1 + wz_n ch E l (j + 1) by omega]
      · rw [show u + (wz_n ch E l (j + 1) + 1) = u + 1 + wz_n ch E l (j + 1) by omega, ← i5, xf_wd_takeText_22_s]
        simp (disch := omega) only [↓xf_wd_takeText_56_s, wq_ltT, wq_ltF, wq_inT, wq_clamp, wq_eqF, wq_eqm, wq_meq, wq_add, wq_mul, wq_subT, eq_self, Bool.false_eq_true, ↓reduceIte, Option.bind_some, Sum.elim_inl, Sum.elim_inr, ↓wq_f0b, ↓wq_f1b, ↓wq_f2b, ↓wq_r0b, ↓wq_r1b, ↓Option.bind_some, hr, ↓wq_b e1, ↓wq_b ad, Nat.add_zero]
/-- the reference reads a text -/
theorem wz_writing (hX : wt_X E ch signs text) {N a B : Nat} (ha : a < 960) (hB : B ≤ 1200) (at_ : Int32) (sorts values : Nat → Int32) : ∀ l j k M (ritems : Nat → Int32), E ≤ j + l → j ≤ E → k ≤ 20 → l + 2 < M →
    ∃ (ritems' : Nat → Int32) (at' k' : Nat) (f' : Int32), (∀ y, y < 20 * a + k ∨ 20 * a + 20 ≤ y → ritems' y = ritems y) ∧
      (∀ r, wt_tx ch E j = some r → k + wz_n ch E l j ≤ 20 → at' = r ∧ f' = -1 ∧ k' = k + wz_n ch E l j ∧ ∀ y, y < wz_n ch E l j → ritems' (20 * a + k + y) = Int32.ofNat (wz_g ch y j)) ∧
      ((∀ r, wt_tx ch E j = some r → 20 < k + wz_n ch E l j) → f' = Int32.ofNat B) ∧
      xf_rf_writing_18 (Int32.ofNat E) text N M at_ (-1) ritems sorts values (Int32.ofNat a) (Int32.ofNat B) (Int32.ofNat k) (Int32.ofNat j) (Int32.ofNat 1) = some ((), Int32.ofNat at', f', ritems', upd sorts a (Int32.ofNat 1), upd values a (Int32.ofNat k')) := by
  have hE := hX.1
  have m1 : ((-1 : Int32) = -1) = True := eq_true rfl
  have fne : ¬ Int32.ofNat B = -1 := fun hh => (wq_eqm (by omega)).mp hh
  -- after a fault
  have stop : ∀ M (ritems : Nat → Int32) (k j : Nat) (v5 : Int32), xf_rf_writing_18 (Int32.ofNat E) text N (M + 1) at_ (Int32.ofNat B) ritems sorts values (Int32.ofNat a) (Int32.ofNat B) (Int32.ofNat k) (Int32.ofNat j) (Int32.ofNat 1) = some ((), Int32.ofNat j, Int32.ofNat B, ritems, upd sorts a (Int32.ofNat 1), upd values a (Int32.ofNat k)) := by
    intro M ritems k j v5
    simp (disch := omega) only [↓xf_rf_writing_18_s, ↓xf_rf_writing_187_s, wq_ltT, wq_ltF, wq_inT, wq_clamp, wq_eqF, wq_eqm, wq_meq, wq_add, wq_mul, wq_subT, eq_self, Bool.false_eq_true, ↓reduceIte, Option.bind_some, Sum.elim_inl, Sum.elim_inr, ↓wq_f0b, ↓wq_f1b, ↓wq_f2b, ↓wq_r0b, ↓wq_r1b, ↓Option.bind_some, fne]
  intro l
  induction l with
  | zero =>
    intro j k M ritems hj hjE hk hM
    obtain ⟨M', rfl⟩ : ∃ M', M = M' + 1 + 1 := ⟨M - 2, by omega⟩
    refine ⟨ritems, j, k, Int32.ofNat B, fun _ _ => rfl, fun r h => absurd (wz_tx1 h).1 (by omega), fun _ => rfl, ?_⟩
    rw [← stop M' ritems k j (Int32.ofNat 1), xf_rf_writing_18_s (N := M' + 1)]
    simp (disch := omega) only [↓xf_rf_writing_56_s, ↓xf_rf_writing_57_s, ↓xf_rf_writing_93_s, ↓xf_rf_writing_94_s, ↓xf_rf_writing_121_s, ↓xf_rf_writing_184_s, wq_ltT, wq_ltF, wq_inT, wq_clamp, wq_eqF, wq_eqm, wq_meq, wq_add, wq_mul, wq_subT, eq_self, Bool.false_eq_true, ↓reduceIte, Option.bind_some, Sum.elim_inl, Sum.elim_inr, ↓wq_f0b, ↓wq_f1b, ↓wq_f2b, ↓wq_r0b, ↓wq_r1b, ↓Option.bind_some, m1, ↓xf_rf_wrongAt_13_s, ↓xf_rf_wrongAt_s]
  | succ l ih =>
    intro j k M ritems hj hjE hk hM
    obtain ⟨M', rfl⟩ : ∃ M', M = M' + 1 + 1 := ⟨M - 2, by omega⟩
    by_cases hE2 : j < E
    · obtain ⟨_, t1, t2, t3⟩ := hX.2 j hE2
      by_cases h39 : ch j = 39
      · rw [h39] at t1
        by_cases h2 : wt_c ch E (j + 1) = 39
        · have hj1 : j + 1 < E := by
            apply Classical.byContradiction
            intro hc
            unfold wt_c at h2
            rw [if_neg hc] at h2
            omega
          have cj1 : wt_c ch E (j + 1) = ch (j + 1) := if_pos hj1
          obtain ⟨_, t4, _, _⟩ := hX.2 (j + 1) hj1
          rw [← cj1, h2] at t4
          have en : wz_n ch E (l + 1) j = wz_n ch E l (j + 2) + 1 := by rw [wz_n, if_pos h39, if_pos h2]
          have et : wt_tx ch E j = wt_tx ch E (j + 2) := by rw [wt_tx, dif_pos hE2, if_pos h39, if_pos h2]
          by_cases h20 : k = 20
          · refine ⟨ritems, j, k, Int32.ofNat B, fun _ _ => rfl, fun r h hh => absurd hh (by omega), fun _ => rfl, ?_⟩
            rw [← stop M' ritems k j (Int32.ofNat 1), xf_rf_writing_18_s (N := M' + 1)]
            simp (disch := omega) only [↓xf_rf_writing_57_s, ↓xf_rf_writing_94_s, ↓xf_rf_writing_121_s, ↓xf_rf_writing_184_s, wq_ltT, wq_ltF, wq_inT, wq_clamp, wq_eqF, wq_eqm, wq_meq, wq_add, wq_mul, wq_subT, eq_self, Bool.false_eq_true, ↓reduceIte, Option.bind_some, Sum.elim_inl, Sum.elim_inr, ↓wq_f0b, ↓wq_f1b, ↓wq_f2b, ↓wq_r0b, ↓wq_r1b, ↓Option.bind_some, m1, ↓xf_rf_wrongAt_13_s, ↓xf_rf_wrongAt_s, t1, t4, h20]
          · obtain ⟨ritems', at', k', f', i1, i2, i3, i4⟩ := ih (j + 2) (k + 1) (M' + 1) (upd ritems (20 * a + k) (Int32.ofNat 39)) (by omega) (by omega) (by omega) (by omega)
            rw [en, et]
            refine ⟨ritems', at', k', f', fun y hy => ?_, fun r h hh => ?_, fun h => i3 (fun r hr => by have := h r hr; omega), ?_⟩
            · rw [i1 y (by omega), wq_upd2 (by omega)]
            · obtain ⟨q1, q2, q3, q4⟩ := i2 r h (by omega)
              refine ⟨q1, q2, by omega, fun y hy => ?_⟩
              cases y with
              | zero => rw [Nat.add_zero, i1 (20 * a + k) (by omega), wq_upd1, wz_g, h39]
              | succ y =>
                rw [wz_g, if_pos h39, show 20 * a + k + (y + 1) = 20 * a + (k + 1) + y by omega]
                exact q4 y (by omega)
            · rw [← i4, xf_rf_writing_18_s (N := M' + 1)]
              simp (disch := omega) only [↓xf_rf_writing_57_s, ↓xf_rf_writing_94_s, ↓xf_rf_writing_129_s, ↓xf_rf_writing_148_s, ↓xf_rf_writing_181_s, ↓xf_rf_writing_184_s, wq_ltT, wq_ltF, wq_inT, wq_clamp, wq_eqF, wq_eqm, wq_meq, wq_add, wq_mul, wq_subT, eq_self, Bool.false_eq_true, ↓reduceIte, Option.bind_some, Sum.elim_inl, Sum.elim_inr, ↓wq_f0b, ↓wq_f1b, ↓wq_f2b, ↓wq_r0b, ↓wq_r1b, ↓Option.bind_some, m1, t1, t4]
        · have en : wz_n ch E (l + 1) j = 0 := by rw [wz_n, if_pos h39, if_neg h2]
          have et : wt_tx ch E j = some (j + 1) := by rw [wt_tx, dif_pos hE2, if_pos h39, if_neg h2]
          rw [en, et]
          refine ⟨ritems, j + 1, k, -1, fun _ _ => rfl, fun r h _ => ⟨Option.some.inj h, rfl, by omega, fun y hy => absurd hy (Nat.not_lt_zero _)⟩, fun h => absurd (h _ rfl) (by omega), ?_⟩
          have fin : xf_rf_writing_18 (Int32.ofNat E) text N (M' + 1) at_ (-1) ritems sorts values (Int32.ofNat a) (Int32.ofNat B) (Int32.ofNat k) (Int32.ofNat (j + 1)) (Int32.ofNat 0) = some ((), Int32.ofNat (j + 1), -1, ritems, upd sorts a (Int32.ofNat 1), upd values a (Int32.ofNat k)) := by
            simp (disch := omega) only [↓xf_rf_writing_18_s, ↓xf_rf_writing_187_s, wq_ltT, wq_ltF, wq_inT, wq_clamp, wq_eqF, wq_eqm, wq_meq, wq_add, wq_mul, wq_subT, eq_self, Bool.false_eq_true, ↓reduceIte, Option.bind_some, Sum.elim_inl, Sum.elim_inr, ↓wq_f0b, ↓wq_f1b, ↓wq_f2b, ↓wq_r0b, ↓wq_r1b, ↓Option.bind_some]
          rw [← fin, xf_rf_writing_18_s (N := M' + 1)]
          by_cases hj1 : j + 1 < E
          · have cj1 : wt_c ch E (j + 1) = ch (j + 1) := if_pos hj1
            obtain ⟨_, t4, _, t5⟩ := hX.2 (j + 1) hj1
            rw [cj1] at h2
            by_cases h20 : k = 20
            · simp (disch := omega) only [↓xf_rf_writing_57_s, ↓xf_rf_writing_93_s, ↓xf_rf_writing_94_s, ↓xf_rf_writing_129_s, ↓xf_rf_writing_184_s, wq_ltT, wq_ltF, wq_inT, wq_clamp, wq_eqF, wq_eqm, wq_meq, wq_add, wq_mul, wq_subT, eq_self, Bool.false_eq_true, ↓reduceIte, Option.bind_some, Sum.elim_inl, Sum.elim_inr, ↓wq_f0b, ↓wq_f1b, ↓wq_f2b, ↓wq_r0b, ↓wq_r1b, ↓Option.bind_some, m1, t1, t4, h20]
            · simp (disch := omega) only [↓xf_rf_writing_57_s, ↓xf_rf_writing_93_s, ↓xf_rf_writing_94_s, ↓xf_rf_writing_129_s, ↓xf_rf_writing_184_s, wq_ltT, wq_ltF, wq_inT, wq_clamp, wq_eqF, wq_eqm, wq_meq, wq_add, wq_mul, wq_subT, eq_self, Bool.false_eq_true, ↓reduceIte, Option.bind_some, Sum.elim_inl, Sum.elim_inr, ↓wq_f0b, ↓wq_f1b, ↓wq_f2b, ↓wq_r0b, ↓wq_r1b, ↓Option.bind_some, m1, t1, t4]
          · by_cases h20 : k = 20
            · simp (disch := omega) only [↓xf_rf_writing_57_s, ↓xf_rf_writing_93_s, ↓xf_rf_writing_94_s, ↓xf_rf_writing_129_s, ↓xf_rf_writing_184_s, wq_ltT, wq_ltF, wq_inT, wq_clamp, wq_eqF, wq_eqm, wq_meq, wq_add, wq_mul, wq_subT, eq_self, Bool.false_eq_true, ↓reduceIte, Option.bind_some, Sum.elim_inl, Sum.elim_inr, ↓wq_f0b, ↓wq_f1b, ↓wq_f2b, ↓wq_r0b, ↓wq_r1b, ↓Option.bind_some, m1, t1, h20]
            · simp (disch := omega) only [↓xf_rf_writing_57_s, ↓xf_rf_writing_93_s, ↓xf_rf_writing_94_s, ↓xf_rf_writing_129_s, ↓xf_rf_writing_184_s, wq_ltT, wq_ltF, wq_inT, wq_clamp, wq_eqF, wq_eqm, wq_meq, wq_add, wq_mul, wq_subT, eq_self, Bool.false_eq_true, ↓reduceIte, Option.bind_some, Sum.elim_inl, Sum.elim_inr, ↓wq_f0b, ↓wq_f1b, ↓wq_f2b, ↓wq_r0b, ↓wq_r1b, ↓Option.bind_some, m1, t1]
      · have en : wz_n ch E (l + 1) j = wz_n ch E l (j + 1) + 1 := by rw [wz_n, if_neg h39]
        have et : wt_tx ch E j = wt_tx ch E (j + 1) := by rw [wt_tx, dif_pos hE2, if_neg h39]
        by_cases h20 : k = 20
        · refine ⟨ritems, j, k, Int32.ofNat B, fun _ _ => rfl, fun r h hh => absurd hh (by omega), fun _ => rfl, ?_⟩
          rw [← stop M' ritems k j (Int32.ofNat 1), xf_rf_writing_18_s (N := M' + 1)]
          simp (disch := omega) only [↓xf_rf_writing_56_s, ↓xf_rf_writing_57_s, ↓xf_rf_writing_93_s, ↓xf_rf_writing_94_s, ↓xf_rf_writing_121_s, ↓xf_rf_writing_184_s, wq_ltT, wq_ltF, wq_inT, wq_clamp, wq_eqF, wq_eqm, wq_meq, wq_add, wq_mul, wq_subT, eq_self, Bool.false_eq_true, ↓reduceIte, Option.bind_some, Sum.elim_inl, Sum.elim_inr, ↓wq_f0b, ↓wq_f1b, ↓wq_f2b, ↓wq_r0b, ↓wq_r1b, ↓Option.bind_some, m1, ↓xf_rf_wrongAt_13_s, ↓xf_rf_wrongAt_s, t1, h20]
        · obtain ⟨ritems', at', k', f', i1, i2, i3, i4⟩ := ih (j + 1) (k + 1) (M' + 1) (upd ritems (20 * a + k) (Int32.ofNat (ch j))) (by omega) (by omega) (by omega) (by omega)
          rw [en, et]
          refine ⟨ritems', at', k', f', fun y hy => ?_, fun r h hh => ?_, fun h => i3 (fun r hr => by have := h r hr; omega), ?_⟩
          · rw [i1 y (by omega), wq_upd2 (by omega)]
          · obtain ⟨q1, q2, q3, q4⟩ := i2 r h (by omega)
            refine ⟨q1, q2, by omega, fun y hy => ?_⟩
            cases y with
            | zero => rw [Nat.add_zero, i1 (20 * a + k) (by omega), wq_upd1, wz_g]
            | succ y =>
              rw [wz_g, if_neg h39, show 20 * a + k + (y + 1) = 20 * a + (k + 1) + y by omega]
              exact q4 y (by omega)
          · rw [← i4, xf_rf_writing_18_s (N := M' + 1)]
            simp (disch := omega) only [↓xf_rf_writing_56_s, ↓xf_rf_writing_57_s, ↓xf_rf_writing_93_s, ↓xf_rf_writing_94_s, ↓xf_rf_writing_129_s, ↓xf_rf_writing_148_s, ↓xf_rf_writing_181_s, ↓xf_rf_writing_184_s, wq_ltT, wq_ltF, wq_inT, wq_clamp, wq_eqF, wq_eqm, wq_meq, wq_add, wq_mul, wq_subT, eq_self, Bool.false_eq_true, ↓reduceIte, Option.bind_some, Sum.elim_inl, Sum.elim_inr, ↓wq_f0b, ↓wq_f1b, ↓wq_f2b, ↓wq_r0b, ↓wq_r1b, ↓Option.bind_some, m1, t1]
    · refine ⟨ritems, j, k, Int32.ofNat B, fun _ _ => rfl, fun r h => absurd (wz_tx1 h).1 hE2, fun _ => rfl, ?_⟩
      rw [← stop M' ritems k j (Int32.ofNat 1), xf_rf_writing_18_s (N := M' + 1)]
      simp (disch := omega) only [↓xf_rf_writing_56_s, ↓xf_rf_writing_57_s, ↓xf_rf_writing_93_s, ↓xf_rf_writing_94_s, ↓xf_rf_writing_121_s, ↓xf_rf_writing_184_s, wq_ltT, wq_ltF, wq_inT, wq_clamp, wq_eqF, wq_eqm, wq_meq, wq_add, wq_mul, wq_subT, eq_self, Bool.false_eq_true, ↓reduceIte, Option.bind_some, Sum.elim_inl, Sum.elim_inr, ↓wq_f0b, ↓wq_f1b, ↓wq_f2b, ↓wq_r0b, ↓wq_r1b, ↓Option.bind_some, m1, ↓xf_rf_wrongAt_13_s, ↓xf_rf_wrongAt_s]
end
