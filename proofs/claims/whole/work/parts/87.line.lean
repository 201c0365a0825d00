/-! READ: one line. -/
theorem wz_dec {q : Nat} (h : q + 1 < 2147483648) : Int32.ofNat (q + 1) + (-1 : Int32) = Int32.ofNat q := by
  have e : Int32.ofNat (q + 1) + (-1 : Int32) = Int32.ofNat (q + 1) - Int32.ofNat 1 := by
    rw [Int32.sub_eq_add_neg]
    rfl
  rw [e, wq_subT (by omega) h, Nat.add_sub_cancel]
/-- the lines by their numbers -/
def wz_O (r : Nat) (o a : Nat → Nat) (number order : Nat → Int32) : Prop :=
  r ≤ 40 ∧ (∀ j, j < r → number j = Int32.ofNat (a j) ∧ 1 ≤ a j ∧ a j ≤ 999) ∧ (∀ p, p < r → o p < r ∧ order p = Int32.ofNat (o p)) ∧ (∀ p q, p < q → q < r → a (o p) < a (o q)) ∧ (∀ j, j < r → ∃ p, p < r ∧ o p = j)
theorem wz_addLine {r w N : Nat} {o a : Nat → Nat} {number order : Nat → Int32} (hO : wz_O r o a number order) (hr : r < 40) (hw : 1 ≤ w ∧ w ≤ 999) (hn : ∀ j, j < r → a j ≠ w) (hN : 1300 ≤ N) (name : Nat → Int64) (size : Nat → Int32) (nm : Int64) :
    ∃ (o' : Nat → Nat) (order' : Nat → Int32), wz_O (r + 1) o' (fun j => if j = r then w else a j) (upd number r (Int32.ofNat w)) order' ∧ xf_md_addLine N (Int32.ofNat r) name number order (Int32.ofNat r) size (Int32.ofNat w) nm = some ((), Int32.ofNat (r + 1), vp_updL name r nm, upd number r (Int32.ofNat w), order', Int32.ofNat (r + 1), upd size r (Int32.ofNat 0)) := by
  obtain ⟨_, O1, O2, O3, O4⟩ := hO
  have loop : ∀ q M (cur : Nat → Int32), q ≤ r → q < M → (∀ p, p < q → cur p = order p) → (∀ p, q < p → p ≤ r → cur p = order (p - 1)) → (∀ p, q ≤ p → p < r → w < a (o p)) →
      ∃ (q' : Nat) (order' : Nat → Int32), q' ≤ r ∧ (∀ p, q' ≤ p → p < r → w < a (o p)) ∧ (∀ p, p < q' → a (o p) < w) ∧ (∀ p, p < q' → order' p = order p) ∧ order' q' = Int32.ofNat r ∧ (∀ p, q' < p → p ≤ r → order' p = order (p - 1)) ∧
        xf_md_addLine_16 N M (Int32.ofNat r) name number cur (Int32.ofNat r) size (Int32.ofNat w) nm (Int32.ofNat q) = some ((), Int32.ofNat (r + 1), vp_updL name r nm, upd number r (Int32.ofNat w), order', Int32.ofNat (r + 1), upd size r (Int32.ofNat 0)) := by
    intro q
    induction q with
    | zero =>
      intro M cur hq hM h1 h2 h3
      obtain ⟨M', rfl⟩ : ∃ M', M = M' + 1 := ⟨M - 1, by omega⟩
      refine ⟨0, upd cur 0 (Int32.ofNat r), by omega, h3, fun p hp => absurd hp (by omega), fun p hp => absurd hp (by omega), wq_upd1, fun p hp hp2 => ?_, ?_⟩
      · rw [wq_upd2 (by omega)]
        exact h2 p hp hp2
      · simp (disch := omega) only [↓xf_md_addLine_16_s, ↓xf_md_addLine_61_s, wq_ltT, wq_ltF, wq_inT, wq_clamp, wq_eqF, wq_eqm, wq_meq, wq_add, wq_mul, wq_subT, eq_self, Bool.false_eq_true, ↓reduceIte, Option.bind_some, Sum.elim_inl, Sum.elim_inr, ↓wq_f0b, ↓wq_f1b, ↓wq_f2b, ↓wq_r0b, ↓wq_r1b, ↓Option.bind_some]
    | succ q ih =>
      intro M cur hq hM h1 h2 h3
      obtain ⟨M', rfl⟩ : ∃ M', M = M' + 1 := ⟨M - 1, by omega⟩
      obtain ⟨o1, o2⟩ := O2 q (by omega)
      have c1 := h1 q (by omega)
      rw [o2] at c1
      obtain ⟨n1, n2, n3⟩ := O1 (o q) o1
      have dc := wz_dec (q := q) (by omega)
      by_cases hlt : w < a (o q)
      · obtain ⟨q', order', i1, i2, i3, i4, i5, i6, i7⟩ := ih M' (upd cur (q + 1) (Int32.ofNat (o q))) (by omega) (by omega) (fun p hp => by rw [wq_upd2 (by omega)]; exact h1 p (by omega)) (fun p hp hp2 => by
          by_cases e : p = q + 1
          · rw [e, wq_upd1, Nat.add_sub_cancel]
            exact o2.symm
          · rw [wq_upd2 e]
            exact h2 p (by omega) hp2) (fun p hp hp2 => by
          by_cases e : p = q
          · rw [e]
            exact hlt
          · exact h3 p (by omega) hp2)
        refine ⟨q', order', i1, i2, i3, i4, i5, i6, ?_⟩
        rw [← i7, xf_md_addLine_16_s]
        simp (disch := omega) only [wq_ltT, wq_ltF, wq_inT, wq_clamp, wq_eqF, wq_eqm, wq_meq, wq_add, wq_mul, wq_subT, eq_self, Bool.false_eq_true, ↓reduceIte, Option.bind_some, Sum.elim_inl, Sum.elim_inr, ↓wq_f0b, ↓wq_f1b, ↓wq_f2b, ↓wq_r0b, ↓wq_r1b, ↓Option.bind_some, Nat.add_sub_cancel, c1, n1, dc]
      · have hlt2 : a (o q) < w := by
          have := hn (o q) o1
          omega
        refine ⟨q + 1, upd cur (q + 1) (Int32.ofNat r), hq, h3, fun p hp => ?_, fun p hp => ?_, wq_upd1, fun p hp hp2 => ?_, ?_⟩
        · by_cases e : p = q
          · rw [e]
            exact hlt2
          · have := O3 p q (by omega) (by omega)
            omega
        · rw [wq_upd2 (by omega)]
          exact h1 p hp
        · rw [wq_upd2 (by omega)]
          exact h2 p hp hp2
        · simp (disch := omega) only [↓xf_md_addLine_16_s, ↓xf_md_addLine_61_s, wq_ltT, wq_ltF, wq_inT, wq_clamp, wq_eqF, wq_eqm, wq_meq, wq_add, wq_mul, wq_subT, eq_self, Bool.false_eq_true, ↓reduceIte, Option.bind_some, Sum.elim_inl, Sum.elim_inr, ↓wq_f0b, ↓wq_f1b, ↓wq_f2b, ↓wq_r0b, ↓wq_r1b, ↓Option.bind_some, Nat.add_sub_cancel, c1, n1]
  obtain ⟨q, order', i1, i2, i3, i4, i5, i6, i7⟩ := loop r N order (Nat.le_refl _) (by omega) (fun _ _ => rfl) (fun p hp hp2 => absurd hp2 (by omega)) (fun p hp hp2 => absurd hp2 (by omega))
  refine ⟨fun p => if p < q then o p else if p = q then r else o (p - 1), order', ⟨by omega, fun j hj => ?_, fun p hp => ?_, fun p p' hp hp' => ?_, fun j hj => ?_⟩, ?_⟩
  · by_cases e : j = r
    · subst e
      show upd number j (Int32.ofNat w) j = Int32.ofNat (if j = j then w else a j) ∧ 1 ≤ (if j = j then w else a j) ∧ (if j = j then w else a j) ≤ 999
      rw [wq_upd1, if_pos rfl]
      exact ⟨rfl, hw⟩
    · show upd number r (Int32.ofNat w) j = Int32.ofNat (if j = r then w else a j) ∧ 1 ≤ (if j = r then w else a j) ∧ (if j = r then w else a j) ≤ 999
      rw [wq_upd2 e, if_neg e]
      exact O1 j (by omega)
  · show (if p < q then o p else if p = q then r else o (p - 1)) < r + 1 ∧ order' p = Int32.ofNat (if p < q then o p else if p = q then r else o (p - 1))
    by_cases h1 : p < q
    · rw [if_pos h1, i4 p h1]
      have := O2 p (by omega)
      exact ⟨by omega, this.2⟩
    · rw [if_neg h1]
      by_cases h2 : p = q
      · rw [if_pos h2, h2]
        exact ⟨by omega, i5⟩
      · rw [if_neg h2, i6 p (by omega) (by omega)]
        have := O2 (p - 1) (by omega)
        exact ⟨by omega, this.2⟩
  · show (if (if p < q then o p else if p = q then r else o (p - 1)) = r then w else a (if p < q then o p else if p = q then r else o (p - 1))) < (if (if p' < q then o p' else if p' = q then r else o (p' - 1)) = r then w else a (if p' < q then o p' else if p' = q then r else o (p' - 1)))
    have ne : ∀ p, p < r → ¬ o p = r := fun p hp => by
      have := (O2 p hp).1
      omega
    by_cases h1 : p < q
    · rw [if_pos h1, if_neg (ne p (by omega))]
      by_cases h2 : p' < q
      · rw [if_pos h2, if_neg (ne p' (by omega))]
        exact O3 p p' hp (by omega)
      · rw [if_neg h2]
        by_cases h3 : p' = q
        · rw [if_pos h3, if_pos rfl]
          exact i3 p h1
        · rw [if_neg h3, if_neg (ne (p' - 1) (by omega))]
          have e1 := i3 p h1
          have e2 := i2 (p' - 1) (by omega) (by omega)
          omega
    · rw [if_neg h1, if_neg (show ¬ p' < q by omega), if_neg (show ¬ p' = q by omega), if_neg (ne (p' - 1) (by omega))]
      by_cases h3 : p = q
      · rw [if_pos h3, if_pos rfl]
        exact i2 (p' - 1) (by omega) (by omega)
      · rw [if_neg h3, if_neg (ne (p - 1) (by omega))]
        exact O3 (p - 1) (p' - 1) (by omega) (by omega)
  · by_cases e : j = r
    · refine ⟨q, by omega, ?_⟩
      show (if q < q then o q else if q = q then r else o (q - 1)) = j
      rw [if_neg (by omega), if_pos rfl, e]
    · obtain ⟨p, hp, hp2⟩ := O4 j (by omega)
      by_cases h1 : p < q
      · refine ⟨p, by omega, ?_⟩
        show (if p < q then o p else if p = q then r else o (p - 1)) = j
        rw [if_pos h1, hp2]
      · refine ⟨p + 1, by omega, ?_⟩
        show (if p + 1 < q then o (p + 1) else if p + 1 = q then r else o (p + 1 - 1)) = j
        rw [if_neg (by omega), if_neg (by omega), Nat.add_sub_cancel, hp2]
  · rw [xf_md_addLine_s, if_pos (of_eq_true (wq_ltT hr (by omega))), i7]
theorem wz_fxN {a : Nat → Nat} {n : Nat} {x : Int32} (h : ∀ j, j < n → ¬ Int32.ofNat (a j) = x) : wq_fx a n x = none := by
  cases e : wq_fx a n x with
  | none => rfl
  | some q =>
    obtain ⟨h1, h2⟩ := wq_fx_some e
    exact absurd h2 (h q h1)
theorem wz_fxS {a : Nat → Nat} {n : Nat} {x : Int32} (h : ∃ j, j < n ∧ Int32.ofNat (a j) = x) : ∃ q, q < n ∧ wq_fx a n x = some q := by
  cases e : wq_fx a n x with
  | none =>
    obtain ⟨j, hj, hj2⟩ := h
    have := wq_lst_none n 0 e j (by omega) (by omega)
    exact absurd hj2 (of_decide_eq_false this)
  | some q => exact ⟨q, (wq_fx_some e).1, rfl⟩
/-- a number is found by both, or by none -/
theorem wz_found {r : Nat} {o a : Nat → Nat} {number order lines numbers : Nat → Int32} (hO : wz_O r o a number order) (hl : lines 1 = Int32.ofNat r) (hn : ∀ j, j < r → numbers (40 + j) = Int32.ofNat (a j)) {N : Nat} (hN : 1300 ≤ N) (x : Int32) :
    ((∃ j, j < r ∧ Int32.ofNat (a j) = x) ∧ ∃ q q', q < 40 ∧ q' < 1000 ∧ xf_md_rowOf (Int32.ofNat r) number order N x = some (Int32.ofNat q) ∧ xf_rf_find lines numbers N (Int32.ofNat 1) x = some (Int32.ofNat q')) ∨
    ((∀ j, j < r → ¬ Int32.ofNat (a j) = x) ∧ xf_md_rowOf (Int32.ofNat r) number order N x = some (-1) ∧ xf_rf_find lines numbers N (Int32.ofNat 1) x = some (-1)) := by
  obtain ⟨hr, O1, O2, O3, O4⟩ := hO
  have e1 := wq_rowOf (n := r) (o := o) (a := fun p => a (o p)) (number := number) (order := order) hr (fun p hp => by
    obtain ⟨g1, g2⟩ := O2 p hp
    exact ⟨by omega, g2, (O1 (o p) g1).1⟩) (N := N) (by omega) x
  have e2 := wq_find (b := 40) (n := r) (a := a) (lines := lines) (numbers := numbers) 1 (by omega) (by omega) hr hl hn (N := N) (by omega) x
  by_cases h : ∃ j, j < r ∧ Int32.ofNat (a j) = x
  · refine Or.inl ⟨h, ?_⟩
    obtain ⟨q', f1, f2⟩ := wz_fxS h
    obtain ⟨j, hj, hj2⟩ := h
    obtain ⟨p, hp, hp2⟩ := O4 j hj
    obtain ⟨q, g1, g2⟩ := wz_fxS (a := fun p => a (o p)) (n := r) (x := x) ⟨p, hp, by rw [← hj2, ← hp2]⟩
    rw [g2] at e1
    rw [f2] at e2
    have o1 := (O2 q g1).1
    exact ⟨o q, 40 + q', by omega, by omega, e1, e2⟩
  · have h' : ∀ j, j < r → ¬ Int32.ofNat (a j) = x := fun j hj hh => h ⟨j, hj, hh⟩
    rw [wz_fxN (a := fun p => a (o p)) (fun p hp => h' (o p) (O2 p hp).1)] at e1
    rw [wz_fxN h'] at e2
    exact Or.inr ⟨h', e1, e2⟩
/-- the lines read -/
def wz_D (r u : Nat) (a z m t c s : Nat → Nat) (name : Nat → Int64) (size sort value start items numbers letters names parts sorts values ritems : Nat → Int32) : Prop :=
  (∀ j, j < r → numbers (40 + j) = Int32.ofNat (a j) ∧ letters (40 + j) = Int32.ofNat (m j) ∧ 1 ≤ m j ∧ m j ≤ 8 ∧ (∀ i, i < m j → ∃ k, 65 ≤ k ∧ k ≤ 90 ∧ names (320 + 8 * j + i) = Int32.ofNat k) ∧ name j = wq_pack names (320 + 8 * j) (m j) ∧ parts (40 + j) = Int32.ofNat (z j) ∧ size j = Int32.ofNat (z j) ∧ 1 ≤ z j ∧ z j ≤ 8 ∧ ∀ k, k < z j → wz_a (j * 8 + k) u (t (j * 8 + k)) (c (j * 8 + k)) (s (j * 8 + k)) sort value start items sorts values ritems) ∧
  (∀ j k j' k', j < r → k < z j → j' < r → k' < z j' → j * 8 + k < j' * 8 + k' → s (j * 8 + k) + c (j * 8 + k) ≤ s (j' * 8 + k'))
/-- what the reference leaves alone -/
def wz_N (ritems letters lines names numbers parts sorts values ritems' letters' lines' names' numbers' parts' sorts' values' : Nat → Int32) : Prop :=
  (∀ y, y < 40 ∨ 80 ≤ y → letters' y = letters y ∧ numbers' y = numbers y ∧ parts' y = parts y) ∧ (∀ y, y < 320 ∨ 640 ≤ y → names' y = names y ∧ sorts' y = sorts y ∧ values' y = values y) ∧ (∀ y, y < 6400 ∨ 12800 ≤ y → ritems' y = ritems y) ∧ (∀ y, y ≠ 1 → lines' y = lines y)
section
variable {E T : Nat} {ch : Nat → Nat} {signs text : Nat → Int32} {b st : Nat → Nat} {o : Nat → Bool} {begin_ end_ first digits : Nat → Int32}
/-- the reference after a fault -/
theorem wz_stop {N M r : Nat} (hr : r < 40) (letters lines names numbers parts : Nat → Int32) (at_ f fr v4 : Int32) (ritems sorts values : Nat → Int32) (k : Nat) (hf : ¬ f = -1) : xf_rf_oneLine_120 (Int32.ofNat E) text N (M + 1) at_ f fr ritems letters lines names numbers parts sorts values (Int32.ofNat (40 + r)) (Int32.ofNat k) v4 = some ((), at_, f, fr, ritems, letters, upd lines 1 (lines 1 + Int32.ofNat 1), names, numbers, upd parts (40 + r) (Int32.ofNat k), sorts, values) := by
  have r1 := wt_rsign2 (E := E) (text := text) (N := N) (at_ := at_) (f := f) (c := Int32.ofNat 41) hf
  have r2 := wt_rsign2 (E := E) (text := text) (N := N) (at_ := at_) (f := f) (c := Int32.ofNat 59) hf
  rw [xf_rf_oneLine_120_s, if_neg hf, ite_self]
  simp (disch := omega) only [↓xf_rf_oneLine_210_s, wq_ltT, wq_ltF, wq_inT, wq_clamp, wq_eqF, wq_eqm, wq_meq, wq_add, wq_mul, wq_subT, eq_self, Bool.false_eq_true, ↓reduceIte, Option.bind_some, Sum.elim_inl, Sum.elim_inr, ↓wq_f0b, ↓wq_f1b, ↓wq_f2b, ↓wq_r0b, ↓wq_r1b, ↓Option.bind_some, ↓wq_b r1, ↓wq_b r2]
theorem wz_name2 {N n1 : Nat} {p1 : Nat → Int32} {at_ f fr v : Int32} (hf : ¬ f = -1) : xf_rf_name (Int32.ofNat E) text n1 N p1 at_ f fr v = some (Int32.ofNat 0, p1, at_, f, fr) := by
  rw [xf_rf_name_s, if_neg hf]
theorem wz_dead {N r : Nat} (hN : 1300 ≤ N) (hr : r < 40) (letters lines names numbers parts : Nat → Int32) (at_ f fr v2 : Int32) (ritems sorts values : Nat → Int32) (hf : ¬ f = -1) : xf_rf_oneLine_78 (Int32.ofNat E) text N at_ f fr ritems letters lines names numbers parts sorts values (Int32.ofNat (40 + r)) v2 = some ((), at_, f, fr, ritems, upd letters (40 + r) (Int32.ofNat 0), upd lines 1 (lines 1 + Int32.ofNat 1), names, upd numbers (40 + r) v2, upd parts (40 + r) (Int32.ofNat 0), sorts, values) := by
  obtain ⟨N', rfl⟩ : ∃ N', N = N' + 1 := ⟨N - 1, by omega⟩
  have r1 := wt_rsign2 (E := E) (text := text) (N := N' + 1) (at_ := at_) (f := f) (c := Int32.ofNat 61) hf
  have r2 := wz_name2 (E := E) (text := text) (N := N' + 1) (n1 := 960) (p1 := names) (at_ := at_) (f := f) (fr := fr) (v := Int32.ofNat (8 * (40 + r))) hf
  have r3 := wt_rsign2 (E := E) (text := text) (N := N' + 1) (at_ := at_) (f := f) (c := Int32.ofNat 40) hf
  have s := wz_stop (E := E) (text := text) (N := N' + 1) (M := N') hr (upd letters (40 + r) (Int32.ofNat 0)) lines names (upd numbers (40 + r) v2) parts at_ f fr (Int32.ofNat 1) ritems sorts values 0 hf
  rw [← s, xf_rf_oneLine_78_s]
  simp (disch := omega) only [wq_ltT, wq_ltF, wq_inT, wq_clamp, wq_eqF, wq_eqm, wq_meq, wq_add, wq_mul, wq_subT, eq_self, Bool.false_eq_true, ↓reduceIte, Option.bind_some, Sum.elim_inl, Sum.elim_inr, ↓wq_f0b, ↓wq_f1b, ↓wq_f2b, ↓wq_r0b, ↓wq_r1b, ↓Option.bind_some, ↓wq_b r1, ↓wq_b r2, ↓wq_b r3]
/-- one line read by both -/
theorem wz_one (hX : wt_X E ch signs text) (hK : wt_Tok ch E false T b st o begin_ end_ first digits) {N : Nat} (hN : 1300 ≤ N) {r u i : Nat} {oo a z m t c s : Nat → Nat} {name : Nat → Int64} {number order size sort value start items numbers letters names parts sorts values ritems lines : Nat → Int32} (hO : wz_O r oo a number order) (hD : wz_D r u a z m t c s name size sort value start items numbers letters names parts sorts values ritems) (hl : lines 1 = Int32.ofNat r) (hi : i < T) (hu : u ≤ st i) (fr : Int32) (M : Nat) :
    ∃ (ritems' letters' lines' names' numbers' parts' sorts' values' : Nat → Int32) (fr' : Int32) (i' : Nat), i' ≤ T ∧ wz_N ritems letters lines names numbers parts sorts values ritems' letters' lines' names' numbers' parts' sorts' values' ∧
      ((∃ (u' p' : Nat) (oo' a' z' m' t' c' s' : Nat → Nat) (name' : Nat → Int64) (number' order' size' sort' value' start' items' : Nat → Int32), r < 40 ∧ i < i' ∧ u' ≤ st i' ∧ st i' ≤ p' ∧ p' ≤ b i' ∧ lines' 1 = Int32.ofNat (r + 1) ∧ wz_O (r + 1) oo' a' number' order' ∧ wz_D (r + 1) u' a' z' m' t' c' s' name' size' sort' value' start' items' numbers' letters' names' parts' sorts' values' ritems' ∧
          xf_mr_readAll_17 (Int32.ofNat E) signs N (M + 1) items (Int32.ofNat r) name number order (Int32.ofNat r) size sort start (Int32.ofNat u) value begin_ digits end_ first (Int32.ofNat i) (Int32.ofNat T) (Int32.ofNat r) = xf_mr_readAll_17 (Int32.ofNat E) signs N M items' (Int32.ofNat (r + 1)) name' number' order' (Int32.ofNat (r + 1)) size' sort' start' (Int32.ofNat u') value' begin_ digits end_ first (Int32.ofNat i') (Int32.ofNat T) (Int32.ofNat (r + 1)) ∧
          xf_rf_oneLine (Int32.ofNat E) text N (Int32.ofNat (b i)) (-1) fr ritems letters lines names numbers parts sorts values = some ((), Int32.ofNat p', -1, fr', ritems', letters', lines', names', numbers', parts', sorts', values')) ∨
       (∃ (name' : Nat → Int64) (number' order' size' sort' value' start' items' : Nat → Int32) (li' ro' us' at' : Int32),
          xf_mr_readAll_17 (Int32.ofNat E) signs N (M + 1) items (Int32.ofNat r) name number order (Int32.ofNat r) size sort start (Int32.ofNat u) value begin_ digits end_ first (Int32.ofNat i) (Int32.ofNat T) (Int32.ofNat r) = some (Int32.ofNat 0, items', li', name', number', order', ro', size', sort', start', us', value', begin_, digits, end_, first, Int32.ofNat i', Int32.ofNat T) ∧
          xf_rf_oneLine (Int32.ofNat E) text N (Int32.ofNat (b i)) (-1) fr ritems letters lines names numbers parts sorts values = some ((), at', Int32.ofNat (b i'), fr', ritems', letters', lines', names', numbers', parts', sorts', values'))) := by
  have ef0 : (fits .boolean (.int (Int32.ofNat 0)) = true) = True := by decide
  have ef1 : (fits .boolean (.int (Int32.ofNat 1)) = true) = True := by decide
  have hE := hX.1
  have hTE := hK.2.1
  have m1 : ((-1 : Int32) = -1) = True := eq_true rfl
  have fne : ∀ y, y ≤ 1200 → ¬ Int32.ofNat y = -1 := fun y hy hh => (wq_eqm (by omega)).mp hh
  have hi' : i ≤ T := by omega
  have hr40 := hO.1
  have hb := wt_b_le hK hi'
  have hs := wt_st_le hK hi'
  have mo := wt_more hX hK hi'
  rw [if_pos hi] at mo
  have pk := wt_peek hX hK hN hi' hs (Nat.le_refl _)
  have ab := wt_a_lt hX hK i
  have tk := wt_takes hX hK (i := i) (c := 35) hi' (by omega) (by omega)
  have N0 : wz_N ritems letters lines names numbers parts sorts values ritems letters lines names numbers parts sorts values := ⟨fun _ _ => ⟨rfl, rfl, rfl⟩, fun _ _ => ⟨rfl, rfl, rfl⟩, fun _ _ => rfl, fun _ _ => rfl⟩
  -- a head that is none
  have bad : ∀ i1, xf_mr_readHead begin_ digits end_ first (Int32.ofNat E) signs (Int32.ofNat T) N (Int32.ofNat r) name number order (Int32.ofNat r) size (Int32.ofNat i) = some (Int32.ofNat 0, Int32.ofNat r, name, number, order, Int32.ofNat r, size, Int32.ofNat i1) → xf_mr_readAll_17 (Int32.ofNat E) signs N (M + 1) items (Int32.ofNat r) name number order (Int32.ofNat r) size sort start (Int32.ofNat u) value begin_ digits end_ first (Int32.ofNat i) (Int32.ofNat T) (Int32.ofNat r) = some (Int32.ofNat 0, items, Int32.ofNat r, name, number, order, Int32.ofNat r, size, sort, start, Int32.ofNat u, value, begin_, digits, end_, first, Int32.ofNat i1, Int32.ofNat T) := by
    intro i1 h
    simp (disch := omega) only [↓xf_mr_readAll_17_s, ↓xf_mr_readAll_59_s, wq_ltT, wq_ltF, wq_inT, wq_clamp, wq_eqF, wq_eqm, wq_meq, wq_add, wq_mul, wq_subT, eq_self, Bool.false_eq_true, ↓reduceIte, Option.bind_some, Sum.elim_inl, Sum.elim_inr, ↓wq_f0b, ↓wq_f1b, ↓wq_f2b, ↓wq_r0b, ↓wq_r1b, ↓Option.bind_some, ↓wq_b mo, ↓wq_b h]
  by_cases hr : r < 40
  · by_cases h35 : wt_a ch T b i = 35
    · rw [if_pos h35] at tk
      rw [h35] at pk
      obtain ⟨_, _, s1, s2⟩ := wz_sgn hK hi' (by omega) h35 (by decide) (by decide) (by omega)
      have hb1 := wt_b_le hK (i := i + 1) (by omega)
      have lr : (Int32.ofNat r = Int32.ofNat 40) = False := wq_eqF (by omega) (by omega) (by omega)
      have Nd : ∀ v2 : Int32, wz_N ritems letters lines names numbers parts sorts values ritems (upd letters (40 + r) (Int32.ofNat 0)) (upd lines 1 (lines 1 + Int32.ofNat 1)) names (upd numbers (40 + r) v2) (upd parts (40 + r) (Int32.ofNat 0)) sorts values := fun v2 => ⟨fun y hy => ⟨wq_upd2 (by omega), wq_upd2 (by omega), wq_upd2 (by omega)⟩, fun _ _ => ⟨rfl, rfl, rfl⟩, fun _ _ => rfl, fun y hy => wq_upd2 hy⟩
      rcases wz_line hX hK hN (i := i + 1) (p := b i + 1) (by omega) (by omega) (by omega) fr with ⟨w, l1, l2, l3, l4, l5⟩ | ⟨l4, v, at_, f, l5, l6, l7⟩
      · -- a number
        rcases wz_found (numbers := numbers) (lines := lines) hO hl (fun j hj => (hD.1 j hj).1) hN (Int32.ofNat w) with ⟨_, q, q', f1, f2, f3, f4⟩ | ⟨hnew, f3, f4⟩
        · refine ⟨ritems, _, _, names, _, _, sorts, values, Int32.ofNat (b (i + 1)), i + 1, by omega, Nd (Int32.ofNat w), Or.inr ⟨name, number, order, size, sort, value, start, items, _, _, _, Int32.ofNat (st (i + 2)), bad (i + 1) ?_, ?_⟩⟩
          · simp (disch := omega) only [↓xf_mr_readHead_s, ↓xf_mr_readHead_51_s, wq_ltT, wq_ltF, wq_inT, wq_clamp, wq_eqF, wq_eqm, wq_meq, wq_add, wq_mul, wq_subT, eq_self, Bool.false_eq_true, ↓reduceIte, Option.bind_some, Sum.elim_inl, Sum.elim_inr, ↓wq_f0b, ↓wq_f1b, ↓wq_f2b, ↓wq_r0b, ↓wq_r1b, ↓Option.bind_some, ↓wq_b tk, ↓wq_b l4, ↓wq_b f3]
          · rw [← wz_dead (E := E) (text := text) hN hr letters lines names numbers parts (Int32.ofNat (st (i + 2))) (Int32.ofNat (b (i + 1))) (Int32.ofNat (b (i + 1))) (Int32.ofNat w) ritems sorts values (fne _ (by omega)), xf_rf_oneLine_s]
            simp (disch := omega) only [wq_ltT, wq_ltF, wq_inT, wq_clamp, wq_eqF, wq_eqm, wq_meq, wq_add, wq_mul, wq_subT, eq_self, Bool.false_eq_true, ↓reduceIte, Option.bind_some, Sum.elim_inl, Sum.elim_inr, ↓wq_f0b, ↓wq_f1b, ↓wq_f2b, ↓wq_r0b, ↓wq_r1b, ↓Option.bind_some, ↓wq_b pk, hl, ↓wq_b l5, ↓wq_b f4, ↓xf_rf_oneLine_70_s, ↓xf_rf_wrongAt_13_s, ↓xf_rf_wrongAt_s, m1]
        · -- a new number
          have s3 := wt_st_le hK (i := i + 2) (by omega)
          have hb2 := wt_b_le hK (i := i + 2) (by omega)
          have tk2 := wt_takes hX hK (i := i + 2) (c := 61) (by omega) (by omega) (by omega)
          have sg2 := wt_rsign hX hK hN (i := i + 2) (p := st (i + 2)) (c := 61) (by omega) (Nat.le_refl _) s3 (by omega)
          have hst12 : st i + 1 ≤ st (i + 2) := by
            have g := hK.1.2 (i + 1) l1
            have e5 : st (i + 2) = (wt_e ch E (o (i + 1)) (b (i + 1))).getD E := g.2.2.2.2.1
            have : b (i + 1) < st (i + 2) := by
              rw [e5]
              cases hw : wt_e ch E (o (i + 1)) (b (i + 1)) with
              | none => exact g.2.1
              | some r => exact (wt_e_le g.2.1 hw).1
            omega
          -- the reference so far
          have rhead : xf_rf_oneLine (Int32.ofNat E) text N (Int32.ofNat (b i)) (-1) fr ritems letters lines names numbers parts sorts values = xf_rf_oneLine_78 (Int32.ofNat E) text N (Int32.ofNat (st (i + 2))) (-1) (Int32.ofNat (b (i + 1))) ritems letters lines names numbers parts sorts values (Int32.ofNat (40 + r)) (Int32.ofNat w) := by
            rw [xf_rf_oneLine_s]
            have e0 : (Int32.ofNat w = Int32.ofNat 0) = False := wq_eqF (by omega) (by omega) (by omega)
            have e12 : i + 1 + 1 = i + 2 := by omega
            rw [e12] at l5
            simp (disch := omega) only [wq_ltT, wq_ltF, wq_inT, wq_clamp, wq_eqF, wq_eqm, wq_meq, wq_add, wq_mul, wq_subT, eq_self, Bool.false_eq_true, ↓reduceIte, Option.bind_some, Sum.elim_inl, Sum.elim_inr, ↓wq_f0b, ↓wq_f1b, ↓wq_f2b, ↓wq_r0b, ↓wq_r1b, ↓Option.bind_some, ↓wq_b pk, hl, ↓wq_b l5, ↓wq_b f4]
          rw [rhead]
          by_cases h61 : wt_a ch T b (i + 2) = 61
          · rw [if_pos h61] at tk2 sg2
            obtain ⟨hiT2, _, s4, s5⟩ := wz_sgn hK (i := i + 2) (by omega) (by omega) h61 (by decide) (by decide) (by omega)
            have s4' : st (i + 3) = b (i + 2) + 1 := s4
            have s5' : b (i + 2) + 1 ≤ b (i + 3) := s5
            have hb3 := wt_b_le hK (i := i + 3) (by omega)
            have nm := wt_cname hX hK hN (i := i + 3) (by omega) (wz_o hK (i + 3) (by omega))
            obtain ⟨nms, r1, r2, r3⟩ := wt_rname hX hK (N := N) (n1 := 960) (to := 8 * (40 + r)) hN (by omega) (by omega) (i := i + 3) (p := b (i + 2) + 1) (by omega) (by omega) (by omega) names (Int32.ofNat (b (i + 1)))
            obtain ⟨en1, en2, en3, _⟩ := wt_end_le (P := wt_lt) (ch := ch) (E := E) (E - b (i + 3)) (b (i + 3)) (by omega)
            rcases nm with ⟨hiT3, nl, ne, nlt, n8, nm⟩ | ⟨nbad, nm⟩
            · -- a name
              have ne2 : wt_end wt_lt ch E (b (i + 3)) = st (i + 4) := ne
              have nlt2 : b (i + 3) < st (i + 4) := nlt
              have n82 : st (i + 4) - b (i + 3) ≤ 8 := n8
              have nm2 : xf_wd_nameAhead begin_ end_ first (Int32.ofNat (i + 3)) (Int32.ofNat E) signs (Int32.ofNat T) N = some (wq_pack signs (b (i + 3)) (st (i + 4) - b (i + 3))) := nm
              rw [ne2] at r2 r3 en1 en2 en3
              rw [if_neg (by omega)] at r3
              have lets : ∀ x, x < st (i + 4) - b (i + 3) → ∃ k, 65 ≤ k ∧ k ≤ 90 ∧ signs (b (i + 3) + x) = Int32.ofNat k := by
                intro x hx
                have := wt_lt_iff.mp (en3 (b (i + 3) + x) (by omega) (by omega))
                exact ⟨_, this.1, this.2, (hX.2 (b (i + 3) + x) (by omega)).1⟩
              have nml : ∀ x, x < st (i + 4) - b (i + 3) → nms (320 + 8 * r + x) = signs (b (i + 3) + x) := by
                intro x hx
                have := r2 x (by omega) (by omega)
                rw [show 8 * (40 + r) + x = 320 + 8 * r + x by omega] at this
                rw [this, (hX.2 (b (i + 3) + x) (by omega)).1]
              have nz : ¬ wq_pack signs (b (i + 3)) (st (i + 4) - b (i + 3)) = 0 := wk_pack0 n82 (by omega) lets
              obtain ⟨oo', order', hO', al⟩ := wz_addLine (N := N) hO hr ⟨l2, l3⟩ (fun j hj e => hnew j hj (by rw [e])) hN name size (wq_pack signs (b (i + 3)) (st (i + 4) - b (i + 3)))
              have s6 := wt_st_le hK (i := i + 4) (by omega)
              have hb4 := wt_b_le hK (i := i + 4) (by omega)
              have tk4 := wt_takes hX hK (i := i + 4) (c := 40) (by omega) (by omega) (by omega)
              have sg4 := wt_rsign hX hK hN (i := i + 4) (p := st (i + 4)) (c := 40) (by omega) (Nat.le_refl _) s6 (by omega)
              by_cases h40 : wt_a ch T b (i + 4) = 40
              · rw [if_pos h40] at tk4 sg4
                obtain ⟨hiT4, _, s7, s8⟩ := wz_sgn hK (i := i + 4) (by omega) (by omega) h40 (by decide) (by decide) (by omega)
                have s7' : st (i + 5) = b (i + 4) + 1 := s7
                have s8' : b (i + 4) + 1 ≤ b (i + 5) := s8
                -- the head
                have hd : xf_mr_readHead begin_ digits end_ first (Int32.ofNat E) signs (Int32.ofNat T) N (Int32.ofNat r) name number order (Int32.ofNat r) size (Int32.ofNat i) = some (Int32.ofNat 1, Int32.ofNat (r + 1), vp_updL name r (wq_pack signs (b (i + 3)) (st (i + 4) - b (i + 3))), upd number r (Int32.ofNat w), order', Int32.ofNat (r + 1), upd size r (Int32.ofNat 0), Int32.ofNat (i + 5)) := by
                  simp (disch := omega) only [↓xf_mr_readHead_s, wq_ltT, wq_ltF, wq_inT, wq_clamp, wq_eqF, wq_eqm, wq_meq, wq_add, wq_mul, wq_subT, eq_self, Bool.false_eq_true, ↓reduceIte, Option.bind_some, Sum.elim_inl, Sum.elim_inr, ↓wq_f0b, ↓wq_f1b, ↓wq_f2b, ↓wq_r0b, ↓wq_r1b, ↓Option.bind_some, ↓wq_b tk, ↓wq_b l4, ↓wq_b f3, ↓xf_wd_step_s, Nat.add_assoc, Nat.reduceAdd, ↓wq_b tk2, ↓wq_b nm2, wq_cmp0, nz, ↓wq_b al, ↓wq_b tk4, ef1]
                have r78 : xf_rf_oneLine_78 (Int32.ofNat E) text N (Int32.ofNat (st (i + 2))) (-1) (Int32.ofNat (b (i + 1))) ritems letters lines names numbers parts sorts values (Int32.ofNat (40 + r)) (Int32.ofNat w) = xf_rf_oneLine_120 (Int32.ofNat E) text N N (Int32.ofNat (b (i + 4) + 1)) (-1) (Int32.ofNat (b (i + 3))) ritems (upd letters (40 + r) (Int32.ofNat (st (i + 4) - b (i + 3)))) lines nms (upd numbers (40 + r) (Int32.ofNat w)) parts sorts values (Int32.ofNat (40 + r)) (Int32.ofNat 0) (Int32.ofNat 1) := by
                  rw [xf_rf_oneLine_78_s]
                  simp (disch := omega) only [wq_ltT, wq_ltF, wq_inT, wq_clamp, wq_eqF, wq_eqm, wq_meq, wq_add, wq_mul, wq_subT, eq_self, Bool.false_eq_true, ↓reduceIte, Option.bind_some, Sum.elim_inl, Sum.elim_inr, ↓wq_f0b, ↓wq_f1b, ↓wq_f2b, ↓wq_r0b, ↓wq_r1b, ↓Option.bind_some, ↓wq_b sg2, ↓wq_b r3, ↓wq_b sg4]
                rw [r78]
                obtain ⟨size', sort', value', start', items', sorts', values', ri, us', fr', i', k', j1, ⟨F1, F2, F3, F4, F5⟩, j3⟩ := wz_args hX hK hN (r := r) (u0 := u) hr (upd letters (40 + r) (Int32.ofNat (st (i + 4) - b (i + 3)))) lines nms (upd numbers (40 + r) (Int32.ofNat w)) parts 8 0 (i + 5) (b (i + 4) + 1) u N N (upd size r (Int32.ofNat 0)) sort value start items sorts values ritems (Int32.ofNat (b (i + 3))) (fun _ => 0) (fun _ => 0) (fun _ => 0) (by omega) (by omega) (by omega) (by omega) (by omega) (Nat.le_refl _) (by omega) (by omega) wq_upd1 (fun j hj => absurd hj (by omega)) (fun j j' _ hj => absurd hj (by omega))
                have Ng : wz_N ritems letters lines names numbers parts sorts values ri (upd letters (40 + r) (Int32.ofNat (st (i + 4) - b (i + 3)))) (upd lines 1 (lines 1 + Int32.ofNat 1)) nms (upd numbers (40 + r) (Int32.ofNat w)) (upd parts (40 + r) (Int32.ofNat k')) sorts' values' :=
                  ⟨fun y hy => ⟨wq_upd2 (by omega), wq_upd2 (by omega), wq_upd2 (by omega)⟩, fun y hy => ⟨r1 y (by omega), (F4 y (by omega)).1, (F4 y (by omega)).2⟩, fun y hy => F5 y (by omega), fun y hy => wq_upd2 hy⟩
                rcases j3 with ⟨u', p', t', c', s', q1, q2, q3, q4, q5, q6, q7, q8, q9, q10, q11, q12⟩ | ⟨at', q11, q12⟩
                · have ra : xf_mr_readArguments (Int32.ofNat (r + 1)) begin_ digits end_ first (Int32.ofNat E) signs (Int32.ofNat T) N items (upd size r (Int32.ofNat 0)) sort start (Int32.ofNat u) value (Int32.ofNat (i + 5)) = some (Int32.ofNat 1, items', size', sort', start', Int32.ofNat u', value', Int32.ofNat i') := by
                    rw [← q11, xf_mr_readArguments_s]
                  have tk9 := wt_takes hX hK (i := i') (c := 59) j1 (by omega) (by omega)
                  have sg9 := wt_rsign hX hK hN (i := i') (p := p') (c := 59) j1 q4 q5 (by omega)
                  have hb9 := wt_b_le hK j1
                  have hs9 := wt_st_le hK j1
                  rw [q12]
                  by_cases h59 : wt_a ch T b i' = 59
                  · rw [if_pos h59] at tk9 sg9
                    obtain ⟨hiT9, _, s9, s10⟩ := wz_sgn hK j1 (by omega) h59 (by decide) (by decide) (by omega)
                    refine ⟨ri, _, _, nms, _, _, sorts', values', fr', i' + 1, by omega, Ng, Or.inl ⟨u', b i' + 1, oo', fun j => if j = r then w else a j, fun j => if j = r then k' else z j, fun j => if j = r then st (i + 4) - b (i + 3) else m j, fun x => if x < r * 8 then t x else t' (x - r * 8), fun x => if x < r * 8 then c x else c' (x - r * 8), fun x => if x < r * 8 then s x else s' (x - r * 8), vp_updL name r (wq_pack signs (b (i + 3)) (st (i + 4) - b (i + 3))), upd number r (Int32.ofNat w), order', size', sort', value', start', items', hr, by omega, by omega, by omega, by omega, by rw [wq_upd1, hl, wq_add], hO', ⟨fun j hj => ?_, ?_⟩, ?_, ?_⟩⟩
                    · by_cases e : j = r
                      · subst e
                        show upd numbers (40 + j) (Int32.ofNat w) (40 + j) = Int32.ofNat (if j = j then w else a j) ∧ upd letters (40 + j) (Int32.ofNat (st (i + 4) - b (i + 3))) (40 + j) = Int32.ofNat (if j = j then st (i + 4) - b (i + 3) else m j) ∧ 1 ≤ (if j = j then st (i + 4) - b (i + 3) else m j) ∧ (if j = j then st (i + 4) - b (i + 3) else m j) ≤ 8 ∧ (∀ x, x < (if j = j then st (i + 4) - b (i + 3) else m j) → ∃ k, 65 ≤ k ∧ k ≤ 90 ∧ nms (320 + 8 * j + x) = Int32.ofNat k) ∧ vp_updL name j (wq_pack signs (b (i + 3)) (st (i + 4) - b (i + 3))) j = wq_pack nms (320 + 8 * j) (if j = j then st (i + 4) - b (i + 3) else m j) ∧ upd parts (40 + j) (Int32.ofNat k') (40 + j) = Int32.ofNat (if j = j then k' else z j) ∧ size' j = Int32.ofNat (if j = j then k' else z j) ∧ 1 ≤ (if j = j then k' else z j) ∧ (if j = j then k' else z j) ≤ 8 ∧ ∀ k, k < (if j = j then k' else z j) → wz_a (j * 8 + k) u' (if j * 8 + k < j * 8 then t (j * 8 + k) else t' (j * 8 + k - j * 8)) (if j * 8 + k < j * 8 then c (j * 8 + k) else c' (j * 8 + k - j * 8)) (if j * 8 + k < j * 8 then s (j * 8 + k) else s' (j * 8 + k - j * 8)) sort' value' start' items' sorts' values' ri
                        rw [if_pos rfl, if_pos rfl, if_pos rfl, wq_upd1, wq_upd1, wq_upd1, wq_lupd1]
                        refine ⟨rfl, rfl, by omega, n82, fun x hx => ?_, wq_pack_congr2 _ (fun x hx => (nml x hx).symm), rfl, q8, q6, q7, fun k hk => ?_⟩
                        · rw [nml x hx]
                          exact lets x hx
                        · rw [if_neg (by omega), if_neg (by omega), if_neg (by omega), show j * 8 + k - j * 8 = k by omega]
                          exact (q9 k hk).1
                      · obtain ⟨d1, d2, d3, d4, d5, d6, d7, d8, d9, d10, d11⟩ := hD.1 j (by omega)
                        show upd numbers (40 + r) (Int32.ofNat w) (40 + j) = Int32.ofNat (if j = r then w else a j) ∧ upd letters (40 + r) (Int32.ofNat (st (i + 4) - b (i + 3))) (40 + j) = Int32.ofNat (if j = r then st (i + 4) - b (i + 3) else m j) ∧ 1 ≤ (if j = r then st (i + 4) - b (i + 3) else m j) ∧ (if j = r then st (i + 4) - b (i + 3) else m j) ≤ 8 ∧ (∀ x, x < (if j = r then st (i + 4) - b (i + 3) else m j) → ∃ k, 65 ≤ k ∧ k ≤ 90 ∧ nms (320 + 8 * j + x) = Int32.ofNat k) ∧ vp_updL name r (wq_pack signs (b (i + 3)) (st (i + 4) - b (i + 3))) j = wq_pack nms (320 + 8 * j) (if j = r then st (i + 4) - b (i + 3) else m j) ∧ upd parts (40 + r) (Int32.ofNat k') (40 + j) = Int32.ofNat (if j = r then k' else z j) ∧ size' j = Int32.ofNat (if j = r then k' else z j) ∧ 1 ≤ (if j = r then k' else z j) ∧ (if j = r then k' else z j) ≤ 8 ∧ ∀ k, k < (if j = r then k' else z j) → wz_a (j * 8 + k) u' (if j * 8 + k < r * 8 then t (j * 8 + k) else t' (j * 8 + k - r * 8)) (if j * 8 + k < r * 8 then c (j * 8 + k) else c' (j * 8 + k - r * 8)) (if j * 8 + k < r * 8 then s (j * 8 + k) else s' (j * 8 + k - r * 8)) sort' value' start' items' sorts' values' ri
                        rw [if_neg e, if_neg e, if_neg e, wq_upd2 (by omega), wq_upd2 (by omega), wq_upd2 (by omega), wq_lupd2 e, F1 j e, wq_upd2 e]
                        refine ⟨d1, d2, d3, d4, fun x hx => ?_, ?_, d7, d8, d9, d10, fun k hk => ?_⟩
                        · rw [r1 (320 + 8 * j + x) (by omega)]
                          exact d5 x hx
                        · rw [d6]
                          exact wq_pack_congr2 _ (fun x hx => (r1 (320 + 8 * j + x) (by omega)).symm)
                        · rw [if_pos (by omega), if_pos (by omega), if_pos (by omega)]
                          exact wz_a_congr (F2 _ (by omega)) F3 (F4 _ (by omega)) (fun x hx => F5 _ (by omega)) (by omega) (d11 k hk)
                    · intro j k j' k2 hj hk hj' hk' hlt
                      have hk1 : k < (if j = r then k' else z j) := hk
                      have hk2 : k2 < (if j' = r then k' else z j') := hk'
                      show (if j * 8 + k < r * 8 then s (j * 8 + k) else s' (j * 8 + k - r * 8)) + (if j * 8 + k < r * 8 then c (j * 8 + k) else c' (j * 8 + k - r * 8)) ≤ (if j' * 8 + k2 < r * 8 then s (j' * 8 + k2) else s' (j' * 8 + k2 - r * 8))
                      by_cases e : j = r
                      · subst e
                        rw [if_pos rfl] at hk1
                        have e' : j' = j := by
                          apply Classical.byContradiction
                          intro hne
                          rw [if_neg hne] at hk2
                          have z8' := (hD.1 j' (by omega)).2.2.2.2.2.2.2.2.2.1
                          omega
                        subst e'
                        rw [if_pos rfl] at hk2
                        rw [if_neg (by omega), if_neg (by omega), if_neg (by omega), show j' * 8 + k - j' * 8 = k by omega, show j' * 8 + k2 - j' * 8 = k2 by omega]
                        exact q10 k k2 (by omega) hk2
                      · rw [if_neg e] at hk1
                        have z8 := (hD.1 j (by omega)).2.2.2.2.2.2.2.2.2.1
                        have d11 := (hD.1 j (by omega)).2.2.2.2.2.2.2.2.2.2 k hk1
                        rw [if_pos (by omega), if_pos (by omega)]
                        by_cases e' : j' = r
                        · subst e'
                          rw [if_pos rfl] at hk2
                          rw [if_neg (by omega), show j' * 8 + k2 - j' * 8 = k2 by omega]
                          have a1 := (q9 k2 hk2).2
                          have a2 := d11.2.2.2.2.1
                          omega
                        · rw [if_neg e'] at hk2
                          have z8' := (hD.1 j' (by omega)).2.2.2.2.2.2.2.2.2.1
                          rw [if_pos (by omega)]
                          exact hD.2 j k j' k2 (by omega) hk1 (by omega) hk2 hlt
                    · rw [xf_mr_readAll_17_s]
                      simp (disch := omega) only [wq_ltT, wq_ltF, wq_inT, wq_clamp, wq_eqF, wq_eqm, wq_meq, wq_add, wq_mul, wq_subT, eq_self, Bool.false_eq_true, ↓reduceIte, Option.bind_some, Sum.elim_inl, Sum.elim_inr, ↓wq_f0b, ↓wq_f1b, ↓wq_f2b, ↓wq_r0b, ↓wq_r1b, ↓Option.bind_some, ↓wq_b mo, ↓wq_b hd, ↓wq_b ra, ↓wq_b tk9]
                    · rw [sg9, Option.bind_some]
                  · rw [if_neg h59] at tk9 sg9
                    refine ⟨ri, _, _, nms, _, _, sorts', values', fr', i', j1, Ng, Or.inr ⟨vp_updL name r (wq_pack signs (b (i + 3)) (st (i + 4) - b (i + 3))), upd number r (Int32.ofNat w), order', size', sort', value', start', items', Int32.ofNat (r + 1), Int32.ofNat (r + 1), Int32.ofNat u', Int32.ofNat (b i'), ?_, ?_⟩⟩
                    · simp (disch := omega) only [↓xf_mr_readAll_17_s, ↓xf_mr_readAll_59_s, wq_ltT, wq_ltF, wq_inT, wq_clamp, wq_eqF, wq_eqm, wq_meq, wq_add, wq_mul, wq_subT, eq_self, Bool.false_eq_true, ↓reduceIte, Option.bind_some, Sum.elim_inl, Sum.elim_inr, ↓wq_f0b, ↓wq_f1b, ↓wq_f2b, ↓wq_r0b, ↓wq_r1b, ↓Option.bind_some, ↓wq_b mo, ↓wq_b hd, ↓wq_b ra, ↓wq_b tk9]
                    · rw [sg9, Option.bind_some]
                · have ra : xf_mr_readArguments (Int32.ofNat (r + 1)) begin_ digits end_ first (Int32.ofNat E) signs (Int32.ofNat T) N items (upd size r (Int32.ofNat 0)) sort start (Int32.ofNat u) value (Int32.ofNat (i + 5)) = some (Int32.ofNat 0, items', size', sort', start', us', value', Int32.ofNat i') := by
                    rw [← q11, xf_mr_readArguments_s]
                  refine ⟨ri, _, _, nms, _, _, sorts', values', fr', i', j1, Ng, Or.inr ⟨vp_updL name r (wq_pack signs (b (i + 3)) (st (i + 4) - b (i + 3))), upd number r (Int32.ofNat w), order', size', sort', value', start', items', Int32.ofNat (r + 1), Int32.ofNat (r + 1), us', at', ?_, q12⟩⟩
                  simp (disch := omega) only [↓xf_mr_readAll_17_s, ↓xf_mr_readAll_59_s, wq_ltT, wq_ltF, wq_inT, wq_clamp, wq_eqF, wq_eqm, wq_meq, wq_add, wq_mul, wq_subT, eq_self, Bool.false_eq_true, ↓reduceIte, Option.bind_some, Sum.elim_inl, Sum.elim_inr, ↓wq_f0b, ↓wq_f1b, ↓wq_f2b, ↓wq_r0b, ↓wq_r1b, ↓Option.bind_some, ↓wq_b mo, ↓wq_b hd, ↓wq_b ra]
              · rw [if_neg h40] at tk4 sg4
                have hd : xf_mr_readHead begin_ digits end_ first (Int32.ofNat E) signs (Int32.ofNat T) N (Int32.ofNat r) name number order (Int32.ofNat r) size (Int32.ofNat i) = some (Int32.ofNat 0, Int32.ofNat (r + 1), vp_updL name r (wq_pack signs (b (i + 3)) (st (i + 4) - b (i + 3))), upd number r (Int32.ofNat w), order', Int32.ofNat (r + 1), upd size r (Int32.ofNat 0), Int32.ofNat (i + 4)) := by
                  simp (disch := omega) only [↓xf_mr_readHead_s, wq_ltT, wq_ltF, wq_inT, wq_clamp, wq_eqF, wq_eqm, wq_meq, wq_add, wq_mul, wq_subT, eq_self, Bool.false_eq_true, ↓reduceIte, Option.bind_some, Sum.elim_inl, Sum.elim_inr, ↓wq_f0b, ↓wq_f1b, ↓wq_f2b, ↓wq_r0b, ↓wq_r1b, ↓Option.bind_some, ↓wq_b tk, ↓wq_b l4, ↓wq_b f3, ↓xf_wd_step_s, Nat.add_assoc, Nat.reduceAdd, ↓wq_b tk2, ↓wq_b nm2, wq_cmp0, nz, ↓wq_b al, ↓wq_b tk4, ef0]
                refine ⟨ritems, upd letters (40 + r) (Int32.ofNat (st (i + 4) - b (i + 3))), upd lines 1 (lines 1 + Int32.ofNat 1), nms, upd numbers (40 + r) (Int32.ofNat w), upd parts (40 + r) (Int32.ofNat 0), sorts, values, Int32.ofNat (b (i + 3)), i + 4, by omega, ⟨fun y hy => ⟨wq_upd2 (by omega), wq_upd2 (by omega), wq_upd2 (by omega)⟩, fun y hy => ⟨r1 y (by omega), rfl, rfl⟩, fun _ _ => rfl, fun y hy => wq_upd2 hy⟩, Or.inr ⟨vp_updL name r (wq_pack signs (b (i + 3)) (st (i + 4) - b (i + 3))), upd number r (Int32.ofNat w), order', upd size r (Int32.ofNat 0), sort, value, start, items, Int32.ofNat (r + 1), Int32.ofNat (r + 1), Int32.ofNat u, Int32.ofNat (b (i + 4)), ?_, ?_⟩⟩
                · simp (disch := omega) only [↓xf_mr_readAll_17_s, ↓xf_mr_readAll_59_s, wq_ltT, wq_ltF, wq_inT, wq_clamp, wq_eqF, wq_eqm, wq_meq, wq_add, wq_mul, wq_subT, eq_self, Bool.false_eq_true, ↓reduceIte, Option.bind_some, Sum.elim_inl, Sum.elim_inr, ↓wq_f0b, ↓wq_f1b, ↓wq_f2b, ↓wq_r0b, ↓wq_r1b, ↓Option.bind_some, ↓wq_b mo, ↓wq_b hd]
                · obtain ⟨N', rfl⟩ : ∃ N', N = N' + 1 := ⟨N - 1, by omega⟩
                  rw [← wz_stop (E := E) (text := text) (N := N' + 1) (M := N') hr (upd letters (40 + r) (Int32.ofNat (st (i + 4) - b (i + 3)))) lines nms (upd numbers (40 + r) (Int32.ofNat w)) parts (Int32.ofNat (b (i + 4))) (Int32.ofNat (b (i + 4))) (Int32.ofNat (b (i + 3))) (Int32.ofNat 1) ritems sorts values 0 (fne _ (by omega)), xf_rf_oneLine_78_s]
                  simp (disch := omega) only [wq_ltT, wq_ltF, wq_inT, wq_clamp, wq_eqF, wq_eqm, wq_meq, wq_add, wq_mul, wq_subT, eq_self, Bool.false_eq_true, ↓reduceIte, Option.bind_some, Sum.elim_inl, Sum.elim_inr, ↓wq_f0b, ↓wq_f1b, ↓wq_f2b, ↓wq_r0b, ↓wq_r1b, ↓Option.bind_some, ↓wq_b sg2, ↓wq_b r3, ↓wq_b sg4]
            · -- no name
              rw [if_pos nbad] at r3
              have fn3 := fne (b (i + 3)) (by omega)
              have sg4 := wt_rsign2 (E := E) (text := text) (N := N) (at_ := Int32.ofNat (wt_end wt_lt ch E (b (i + 3)))) (f := Int32.ofNat (b (i + 3))) (c := Int32.ofNat 40) fn3
              refine ⟨ritems, upd letters (40 + r) (Int32.ofNat (wt_end wt_lt ch E (b (i + 3)) - b (i + 3))), upd lines 1 (lines 1 + Int32.ofNat 1), nms, upd numbers (40 + r) (Int32.ofNat w), upd parts (40 + r) (Int32.ofNat 0), sorts, values, Int32.ofNat (b (i + 3)), i + 3, by omega, ⟨fun y hy => ⟨wq_upd2 (by omega), wq_upd2 (by omega), wq_upd2 (by omega)⟩, fun y hy => ⟨r1 y (by omega), rfl, rfl⟩, fun _ _ => rfl, fun y hy => wq_upd2 hy⟩, Or.inr ⟨name, number, order, size, sort, value, start, items, _, _, _, Int32.ofNat (wt_end wt_lt ch E (b (i + 3))), bad (i + 3) ?_, ?_⟩⟩
              · have z0 : lg_cmp 0 0 = Int32.ofNat 0 := by decide
                simp (disch := omega) only [↓xf_mr_readHead_s, wq_ltT, wq_ltF, wq_inT, wq_clamp, wq_eqF, wq_eqm, wq_meq, wq_add, wq_mul, wq_subT, eq_self, Bool.false_eq_true, ↓reduceIte, Option.bind_some, Sum.elim_inl, Sum.elim_inr, ↓wq_f0b, ↓wq_f1b, ↓wq_f2b, ↓wq_r0b, ↓wq_r1b, ↓Option.bind_some, ↓wq_b tk, ↓wq_b l4, ↓wq_b f3, ↓xf_wd_step_s, Nat.add_assoc, Nat.reduceAdd, ↓wq_b tk2, ↓wq_b nm, z0]
              · obtain ⟨N', rfl⟩ : ∃ N', N = N' + 1 := ⟨N - 1, by omega⟩
                rw [← wz_stop (E := E) (text := text) (N := N' + 1) (M := N') hr (upd letters (40 + r) (Int32.ofNat (wt_end wt_lt ch E (b (i + 3)) - b (i + 3)))) lines nms (upd numbers (40 + r) (Int32.ofNat w)) parts (Int32.ofNat (wt_end wt_lt ch E (b (i + 3)))) (Int32.ofNat (b (i + 3))) (Int32.ofNat (b (i + 3))) (Int32.ofNat 1) ritems sorts values 0 fn3, xf_rf_oneLine_78_s]
                simp (disch := omega) only [wq_ltT, wq_ltF, wq_inT, wq_clamp, wq_eqF, wq_eqm, wq_meq, wq_add, wq_mul, wq_subT, eq_self, Bool.false_eq_true, ↓reduceIte, Option.bind_some, Sum.elim_inl, Sum.elim_inr, ↓wq_f0b, ↓wq_f1b, ↓wq_f2b, ↓wq_r0b, ↓wq_r1b, ↓Option.bind_some, ↓wq_b sg2, ↓wq_b r3, ↓wq_b sg4]
          · -- no sign
            rw [if_neg h61] at tk2 sg2
            have fn2 := fne (b (i + 2)) (by omega)
            refine ⟨ritems, _, _, names, _, _, sorts, values, Int32.ofNat (b (i + 1)), i + 2, by omega, Nd (Int32.ofNat w), Or.inr ⟨name, number, order, size, sort, value, start, items, _, _, _, Int32.ofNat (b (i + 2)), bad (i + 2) ?_, ?_⟩⟩
            · simp (disch := omega) only [↓xf_mr_readHead_s, wq_ltT, wq_ltF, wq_inT, wq_clamp, wq_eqF, wq_eqm, wq_meq, wq_add, wq_mul, wq_subT, eq_self, Bool.false_eq_true, ↓reduceIte, Option.bind_some, Sum.elim_inl, Sum.elim_inr, ↓wq_f0b, ↓wq_f1b, ↓wq_f2b, ↓wq_r0b, ↓wq_r1b, ↓Option.bind_some, ↓wq_b tk, ↓wq_b l4, ↓wq_b f3, ↓xf_wd_step_s, Nat.add_assoc, Nat.reduceAdd, ↓wq_b tk2]
            · obtain ⟨N', rfl⟩ : ∃ N', N = N' + 1 := ⟨N - 1, by omega⟩
              have r2 := wz_name2 (E := E) (text := text) (N := N' + 1) (n1 := 960) (p1 := names) (at_ := Int32.ofNat (b (i + 2))) (f := Int32.ofNat (b (i + 2))) (fr := Int32.ofNat (b (i + 1))) (v := Int32.ofNat (8 * (40 + r))) fn2
              have r3 := wt_rsign2 (E := E) (text := text) (N := N' + 1) (at_ := Int32.ofNat (b (i + 2))) (f := Int32.ofNat (b (i + 2))) (c := Int32.ofNat 40) fn2
              rw [← wz_stop (E := E) (text := text) (N := N' + 1) (M := N') hr (upd letters (40 + r) (Int32.ofNat 0)) lines names (upd numbers (40 + r) (Int32.ofNat w)) parts (Int32.ofNat (b (i + 2))) (Int32.ofNat (b (i + 2))) (Int32.ofNat (b (i + 1))) (Int32.ofNat 1) ritems sorts values 0 fn2, xf_rf_oneLine_78_s]
              simp (disch := omega) only [wq_ltT, wq_ltF, wq_inT, wq_clamp, wq_eqF, wq_eqm, wq_meq, wq_add, wq_mul, wq_subT, eq_self, Bool.false_eq_true, ↓reduceIte, Option.bind_some, Sum.elim_inl, Sum.elim_inr, ↓wq_f0b, ↓wq_f1b, ↓wq_f2b, ↓wq_r0b, ↓wq_r1b, ↓Option.bind_some, ↓wq_b sg2, ↓wq_b r2, ↓wq_b r3]
      · -- no number
        refine ⟨ritems, _, _, names, _, _, sorts, values, Int32.ofNat (b (i + 1)), i + 1, by omega, Nd (Int32.ofNat v), Or.inr ⟨name, number, order, size, sort, value, start, items, _, _, _, Int32.ofNat at_, bad (i + 1) ?_, ?_⟩⟩
        · simp (disch := omega) only [↓xf_mr_readHead_s, ↓xf_mr_readHead_51_s, wq_ltT, wq_ltF, wq_inT, wq_clamp, wq_eqF, wq_eqm, wq_meq, wq_add, wq_mul, wq_subT, eq_self, Bool.false_eq_true, ↓reduceIte, Option.bind_some, Sum.elim_inl, Sum.elim_inr, ↓wq_f0b, ↓wq_f1b, ↓wq_f2b, ↓wq_r0b, ↓wq_r1b, ↓Option.bind_some, ↓wq_b tk, ↓wq_b l4]
        · have fn1 := fne (b (i + 1)) (by omega)
          rw [← wz_dead (E := E) (text := text) hN hr letters lines names numbers parts (Int32.ofNat at_) (Int32.ofNat (b (i + 1))) (Int32.ofNat (b (i + 1))) (Int32.ofNat v) ritems sorts values fn1, xf_rf_oneLine_s]
          by_cases v0 : v = 0
          · subst v0
            rcases l7 with rfl | ⟨_, rfl⟩
            · simp (disch := omega) only [wq_ltT, wq_ltF, wq_inT, wq_clamp, wq_eqF, wq_eqm, wq_meq, wq_add, wq_mul, wq_subT, eq_self, Bool.false_eq_true, ↓reduceIte, Option.bind_some, Sum.elim_inl, Sum.elim_inr, ↓wq_f0b, ↓wq_f1b, ↓wq_f2b, ↓wq_r0b, ↓wq_r1b, ↓Option.bind_some, ↓wq_b pk, hl, ↓wq_b l5, ↓xf_rf_oneLine_70_s, ↓xf_rf_wrongAt_13_s, ↓xf_rf_wrongAt_s, fn1]
            · simp (disch := omega) only [wq_ltT, wq_ltF, wq_inT, wq_clamp, wq_eqF, wq_eqm, wq_meq, wq_add, wq_mul, wq_subT, eq_self, Bool.false_eq_true, ↓reduceIte, Option.bind_some, Sum.elim_inl, Sum.elim_inr, ↓wq_f0b, ↓wq_f1b, ↓wq_f2b, ↓wq_r0b, ↓wq_r1b, ↓Option.bind_some, ↓wq_b pk, hl, ↓wq_b l5, ↓xf_rf_oneLine_70_s, ↓xf_rf_wrongAt_13_s, ↓xf_rf_wrongAt_s, m1]
          · rcases l7 with rfl | ⟨e, _⟩
            · rcases wz_found (numbers := numbers) (lines := lines) hO hl (fun j hj => (hD.1 j hj).1) hN (Int32.ofNat v) with ⟨_, q, q', f1, f2, f3, f4⟩ | ⟨hnew, f3, f4⟩
              · simp (disch := omega) only [wq_ltT, wq_ltF, wq_inT, wq_clamp, wq_eqF, wq_eqm, wq_meq, wq_add, wq_mul, wq_subT, eq_self, Bool.false_eq_true, ↓reduceIte, Option.bind_some, Sum.elim_inl, Sum.elim_inr, ↓wq_f0b, ↓wq_f1b, ↓wq_f2b, ↓wq_r0b, ↓wq_r1b, ↓Option.bind_some, ↓wq_b pk, hl, ↓wq_b l5, ↓wq_b f4, ↓xf_rf_oneLine_70_s, ↓xf_rf_wrongAt_13_s, ↓xf_rf_wrongAt_s, fn1]
              · simp (disch := omega) only [wq_ltT, wq_ltF, wq_inT, wq_clamp, wq_eqF, wq_eqm, wq_meq, wq_add, wq_mul, wq_subT, eq_self, Bool.false_eq_true, ↓reduceIte, Option.bind_some, Sum.elim_inl, Sum.elim_inr, ↓wq_f0b, ↓wq_f1b, ↓wq_f2b, ↓wq_r0b, ↓wq_r1b, ↓Option.bind_some, ↓wq_b pk, hl, ↓wq_b l5, ↓wq_b f4]
            · exact absurd e v0
    · rw [if_neg h35] at tk
      refine ⟨ritems, letters, lines, names, numbers, parts, sorts, values, fr, i, hi', N0, Or.inr ⟨name, number, order, size, sort, value, start, items, _, _, _, Int32.ofNat (b i), bad i ?_, ?_⟩⟩
      · simp (disch := omega) only [↓xf_mr_readHead_s, ↓xf_mr_readHead_24_s, wq_ltT, wq_ltF, wq_inT, wq_clamp, wq_eqF, wq_eqm, wq_meq, wq_add, wq_mul, wq_subT, eq_self, Bool.false_eq_true, ↓reduceIte, Option.bind_some, Sum.elim_inl, Sum.elim_inr, ↓wq_f0b, ↓wq_f1b, ↓wq_f2b, ↓wq_r0b, ↓wq_r1b, ↓Option.bind_some, ↓wq_b tk]
      · simp (disch := omega) only [↓xf_rf_oneLine_s, ↓xf_rf_oneLine_20_s, wq_ltT, wq_ltF, wq_inT, wq_clamp, wq_eqF, wq_eqm, wq_meq, wq_add, wq_mul, wq_subT, eq_self, Bool.false_eq_true, ↓reduceIte, Option.bind_some, Sum.elim_inl, Sum.elim_inr, ↓wq_f0b, ↓wq_f1b, ↓wq_f2b, ↓wq_r0b, ↓wq_r1b, ↓Option.bind_some, ↓wq_b pk, ↓xf_rf_wrongAt_13_s, ↓xf_rf_wrongAt_s, m1]
  · have e40 : r = 40 := by omega
    refine ⟨ritems, letters, lines, names, numbers, parts, sorts, values, fr, i, hi', N0, Or.inr ⟨name, number, order, size, sort, value, start, items, _, _, _, Int32.ofNat (b i), bad i ?_, ?_⟩⟩
    · simp (disch := omega) only [↓xf_mr_readHead_s, ↓xf_mr_readHead_24_s, wq_ltT, wq_ltF, wq_inT, wq_clamp, wq_eqF, wq_eqm, wq_meq, wq_add, wq_mul, wq_subT, eq_self, Bool.false_eq_true, ↓reduceIte, Option.bind_some, Sum.elim_inl, Sum.elim_inr, ↓wq_f0b, ↓wq_f1b, ↓wq_f2b, ↓wq_r0b, ↓wq_r1b, ↓Option.bind_some]
    · rw [e40] at hl
      by_cases h35 : wt_a ch T b i = 35
      · rw [h35] at pk
        simp (disch := omega) only [↓xf_rf_oneLine_s, ↓xf_rf_oneLine_20_s, wq_ltT, wq_ltF, wq_inT, wq_clamp, wq_eqF, wq_eqm, wq_meq, wq_add, wq_mul, wq_subT, eq_self, Bool.false_eq_true, ↓reduceIte, Option.bind_some, Sum.elim_inl, Sum.elim_inr, ↓wq_f0b, ↓wq_f1b, ↓wq_f2b, ↓wq_r0b, ↓wq_r1b, ↓Option.bind_some, ↓wq_b pk, hl, ↓xf_rf_wrongAt_13_s, ↓xf_rf_wrongAt_s, m1]
      · simp (disch := omega) only [↓xf_rf_oneLine_s, ↓xf_rf_oneLine_20_s, wq_ltT, wq_ltF, wq_inT, wq_clamp, wq_eqF, wq_eqm, wq_meq, wq_add, wq_mul, wq_subT, eq_self, Bool.false_eq_true, ↓reduceIte, Option.bind_some, Sum.elim_inl, Sum.elim_inr, ↓wq_f0b, ↓wq_f1b, ↓wq_f2b, ↓wq_r0b, ↓wq_r1b, ↓Option.bind_some, ↓wq_b pk, ↓xf_rf_wrongAt_13_s, ↓xf_rf_wrongAt_s, m1]
end
