/-! DEPTHS, on the reference's side. -/
/-- some depths are known, and those rightly -/
def wq_PD (n : Nat) (r : Nat → Nat → Prop) (D : Nat → Int32) : Prop :=
  ∀ p, p < n → D p = -1 ∨ ∃ d, d ≤ n ∧ D p = Int32.ofNat d ∧ (∀ q, q < n → r p q → ∃ e, e < d ∧ D q = Int32.ofNat e) ∧ (d = 0 ∨ ∃ q, q < n ∧ r p q ∧ D q = Int32.ofNat (d - 1))
theorem wq_PD_path {n : Nat} {r : Nat → Nat → Prop} {D : Nat → Int32} (hn : n ≤ 40) (h : wq_PD n r D) : ∀ d p, p < n → d ≤ n → D p = Int32.ofNat d → ∃ f : Nat → Nat, ∀ i, i ≤ d → f i < n ∧ D (f i) = Int32.ofNat (d - i) := by
  intro d
  induction d with
  | zero =>
    intro p hp _ hd
    refine ⟨fun _ => p, fun i hi => ⟨hp, ?_⟩⟩
    rw [show 0 - i = 0 by omega]
    exact hd
  | succ d ih =>
    intro p hp hdn hd
    rcases h p hp with h1 | ⟨d', h0, h1, _, h3⟩
    · rw [hd] at h1
      exact ((wq_eqm (by omega)).mp h1).elim
    · rw [hd] at h1
      have e := wq_inj (by omega) (by omega) h1
      rcases h3 with h3 | ⟨q, q1, _, q3⟩
      · omega
      · rw [show d' - 1 = d by omega] at q3
        obtain ⟨f, hf⟩ := ih q q1 (by omega) q3
        refine ⟨fun i => if i = 0 then p else f (i - 1), fun i hi => ?_⟩
        show (if i = 0 then p else f (i - 1)) < n ∧ D (if i = 0 then p else f (i - 1)) = Int32.ofNat (d + 1 - i)
        by_cases e0 : i = 0
        · rw [if_pos e0, e0]
          exact ⟨hp, hd⟩
        · rw [if_neg e0, show d + 1 - i = d - (i - 1) by omega]
          exact hf (i - 1) (by omega)
theorem wq_PD_lt {n : Nat} {r : Nat → Nat → Prop} {D : Nat → Int32} (hn : n ≤ 40) (h : wq_PD n r D) {d p : Nat} (hp : p < n) (hdn : d ≤ n) (hd : D p = Int32.ofNat d) : d < n := by
  apply Classical.byContradiction
  intro hc
  obtain ⟨f, hf⟩ := wq_PD_path hn h d p hp hdn hd
  obtain ⟨i, j, h1, h2, h3⟩ := wq_pigeon n f (fun i hi => (hf i (by omega)).1)
  have e1 := (hf i (by omega)).2
  have e2 := (hf j (by omega)).2
  rw [h3, e2] at e1
  have := wq_inj (by omega) (by omega) e1
  omega
theorem wq_PD_val {n : Nat} {r : Nat → Nat → Prop} {D : Nat → Int32} (hn : n ≤ 40) (h : wq_PD n r D) {p : Nat} (hp : p < n) : D p = -1 ∨ ∃ d, d < n ∧ D p = Int32.ofNat d := by
  rcases h p hp with h1 | ⟨d, h0, h1, _⟩
  · exact Or.inl h1
  · exact Or.inr ⟨d, wq_PD_lt hn h hp h0 h1, h1⟩
theorem wq_PD_upd {n : Nat} {r : Nat → Nat → Prop} {D : Nat → Int32} (hn : n ≤ 40) (h : wq_PD n r D) {p d : Nat} (hp : p < n) (hm : D p = -1) (hd : d ≤ n) (h1 : ∀ q, q < n → r p q → ∃ e, e < d ∧ D q = Int32.ofNat e) (h2 : d = 0 ∨ ∃ q, q < n ∧ r p q ∧ D q = Int32.ofNat (d - 1)) : wq_PD n r (upd D p (Int32.ofNat d)) := by
  have ne : ∀ q e, q < n → e ≤ n → D q = Int32.ofNat e → q ≠ p := by
    intro q e _ he hq hqp
    rw [hqp, hm] at hq
    exact ((wq_meq (by omega)).mp hq).elim
  intro q hq
  by_cases e : q = p
  · subst e
    rw [wq_upd1]
    refine Or.inr ⟨d, hd, rfl, fun q' hq' hr => ?_, ?_⟩
    · obtain ⟨e', e1, e2⟩ := h1 q' hq' hr
      exact ⟨e', e1, by rw [wq_upd2 (ne q' e' hq' (by omega) e2)]; exact e2⟩
    · rcases h2 with h2 | ⟨q', q1, q2, q3⟩
      · exact Or.inl h2
      · exact Or.inr ⟨q', q1, q2, by rw [wq_upd2 (ne q' (d - 1) q1 (by omega) q3)]; exact q3⟩
  · rw [wq_upd2 e]
    rcases h q hq with g | ⟨d', g0, g1, g2, g3⟩
    · exact Or.inl g
    · refine Or.inr ⟨d', g0, g1, fun q' hq' hr => ?_, ?_⟩
      · obtain ⟨e', e1, e2⟩ := g2 q' hq' hr
        exact ⟨e', e1, by rw [wq_upd2 (ne q' e' hq' (by omega) e2)]; exact e2⟩
      · rcases g3 with g3 | ⟨q', q1, q2, q3⟩
        · exact Or.inl g3
        · exact Or.inr ⟨q', q1, q2, by rw [wq_upd2 (ne q' (d' - 1) q1 (by omega) q3)]; exact q3⟩
theorem wq_PD_end {n : Nat} {r : Nat → Nat → Prop} {D : Nat → Int32} (hn : n ≤ 40) (h : wq_PD n r D) (he : ∀ p, p < n → D p = -1 → ∃ q, q < n ∧ r p q ∧ D q = -1) : wi_D n r D := by
  intro p hp
  rcases h p hp with g | ⟨d, g0, g1, g2, g3⟩
  · exact Or.inl ⟨g, he p hp g⟩
  · exact Or.inr ⟨d, wq_PD_lt hn h hp g0 g1, g1, g2, g3⟩
/-- how many are not known yet -/
def wq_cnt (D : Nat → Int32) : Nat → Nat
  | 0 => 0
  | p + 1 => wq_cnt D p + (if D p = -1 then 1 else 0)
theorem wq_cnt_le (D : Nat → Int32) : ∀ n, wq_cnt D n ≤ n := by
  intro n
  induction n with
  | zero => exact Nat.le_refl 0
  | succ n ih =>
    rw [wq_cnt]
    split <;> omega
theorem wq_cnt_upd {D : Nat → Int32} {p d : Nat} (hm : D p = -1) (hd : d < 2147483648) : ∀ n, wq_cnt (upd D p (Int32.ofNat d)) n + (if p < n then 1 else 0) = wq_cnt D n := by
  intro n
  induction n with
  | zero => rfl
  | succ n ih =>
    rw [wq_cnt, wq_cnt]
    by_cases e : n = p
    · subst e
      rw [wq_upd1, if_neg (fun hh => (wq_eqm hd).mp hh), if_pos hm, if_pos (by omega : n < n + 1)]
      rw [if_neg (by omega : ¬ n < n)] at ih
      omega
    · rw [wq_upd2 e]
      by_cases h : p < n
      · rw [if_pos h] at ih
        rw [if_pos (by omega : p < n + 1)]
        omega
      · rw [if_neg h] at ih
        rw [if_neg (by omega : ¬ p < n + 1)]
        omega
theorem wq_cnt0 {D : Nat → Int32} : ∀ n, wq_cnt D n = 0 → ∀ p, p < n → ¬ D p = -1 := by
  intro n
  induction n with
  | zero => intro _ p hp; omega
  | succ n ih =>
    intro h p hp hm
    rw [wq_cnt] at h
    by_cases e : p = n
    · subst e
      rw [if_pos hm] at h
      omega
    · exact ih (by omega) p (by omega) hm
theorem wq_cnt_congr {D D' : Nat → Int32} : ∀ n, (∀ p, p < n → D p = D' p) → wq_cnt D n = wq_cnt D' n := by
  intro n
  induction n with
  | zero => intro _; rfl
  | succ n ih =>
    intro h
    rw [wq_cnt, wq_cnt, ih (fun p hp => h p (by omega)), h n (by omega)]
theorem wq_PD_congr {n : Nat} {r : Nat → Nat → Prop} {D D' : Nat → Int32} (h : ∀ p, p < n → D p = D' p) (hD : wq_PD n r D) : wq_PD n r D' := by
  intro p hp
  rcases hD p hp with g | ⟨d, g0, g1, g2, g3⟩
  · exact Or.inl (by rw [← h p hp]; exact g)
  · refine Or.inr ⟨d, g0, by rw [← h p hp]; exact g1, fun q hq hr => ?_, ?_⟩
    · obtain ⟨e, e1, e2⟩ := g2 q hq hr
      exact ⟨e, e1, by rw [← h q hq]; exact e2⟩
    · rcases g3 with g3 | ⟨q, q1, q2, q3⟩
      · exact Or.inl g3
      · exact Or.inr ⟨q, q1, q2, by rw [← h q q1]; exact q3⟩
section
variable {n : Nat} {r : Nat → Nat → Prop} {items lines numbers parts sorts values : Nat → Int32} {ways : Nat → Int64}
theorem wq_dep66b {N p : Nat} (hn : n ≤ 40) (hl : lines 0 = Int32.ofNat n) (hp : p < n) (D : Nat → Int32) (v1 : Int32) (k27 : (Nat → Int32) → (Nat → Int64) → Int32 → Option (Unit × (Nat → Int32) × (Nat → Int64))) (k35 : (Nat → Int32) → (Nat → Int64) → Int32 → Int32 → Option (Unit × (Nat → Int32) × (Nat → Int64))) :
    ∀ k l M (x : Int32), l + k = n → k < M → xf_rf_findDepths_66 items lines numbers parts sorts values k27 k35 N M D ways v1 (Int32.ofNat p) x (Int32.ofNat 0) (Int32.ofNat l) = k35 D ways v1 (Int32.ofNat (p + 1)) := by
  intro k
  induction k with
  | zero =>
    intro l M x hk hM
    obtain ⟨M', rfl⟩ : ∃ M', M = M' + 1 := ⟨M - 1, by omega⟩
    simp (disch := omega) only [xf_rf_findDepths_66_s, xf_rf_findDepths_166_s, wq_ltT, wq_ltF, wq_inT, wq_clamp, wq_eqF, wq_eqm, wq_meq, wq_add, wq_mul, wq_subT, eq_self, Bool.false_eq_true, ↓reduceIte, Option.bind_some, Sum.elim_inl, Sum.elim_inr, ↓wq_f0b, ↓wq_f1b, ↓wq_f2b, ↓wq_r0b, ↓wq_r1b, ↓Option.bind_some, hl]
  | succ k ih =>
    intro l M x hk hM
    obtain ⟨M', rfl⟩ : ∃ M', M = M' + 1 := ⟨M - 1, by omega⟩
    have e := fun x => ih (l + 1) M' x (by omega) (by omega)
    simp (disch := omega) only [xf_rf_findDepths_66_s, xf_rf_findDepths_116_s, xf_rf_findDepths_117_s, xf_rf_findDepths_145_s, xf_rf_findDepths_146_s, wq_ltT, wq_ltF, wq_inT, wq_clamp, wq_eqF, wq_eqm, wq_meq, wq_add, wq_mul, wq_subT, eq_self, Bool.false_eq_true, ↓reduceIte, Option.bind_some, Sum.elim_inl, Sum.elim_inr, ↓wq_f0b, ↓wq_f1b, ↓wq_f2b, ↓wq_r0b, ↓wq_r1b, ↓Option.bind_some, hl, e, ite_self]
theorem wq_dep66a {N p : Nat} (hn : n ≤ 40) (hl : lines 0 = Int32.ofNat n) (hp : p < n) (hw : ∀ j, j < 64 → (wq_bit (ways p) j = true ↔ (j < n ∧ r p j))) (D : Nat → Int32) (hD : ∀ q, q < n → D q = -1 ∨ ∃ e, e < n ∧ D q = Int32.ofNat e) (v1 : Int32) (k27 : (Nat → Int32) → (Nat → Int64) → Int32 → Option (Unit × (Nat → Int32) × (Nat → Int64))) (k35 : (Nat → Int32) → (Nat → Int64) → Int32 → Int32 → Option (Unit × (Nat → Int32) × (Nat → Int64))) :
    ∀ k l M d, l + k = n → k < M → d ≤ n → (∀ q, q < l → r p q → ∃ e, e < d ∧ D q = Int32.ofNat e) → (d = 0 ∨ ∃ q, q < n ∧ r p q ∧ D q = Int32.ofNat (d - 1)) →
    (∃ d', d' ≤ n ∧ (∀ q, q < n → r p q → ∃ e, e < d' ∧ D q = Int32.ofNat e) ∧ (d' = 0 ∨ ∃ q, q < n ∧ r p q ∧ D q = Int32.ofNat (d' - 1)) ∧ xf_rf_findDepths_66 items lines numbers parts sorts values k27 k35 N M D ways v1 (Int32.ofNat p) (Int32.ofNat d) (Int32.ofNat 1) (Int32.ofNat l) = k35 (upd D p (Int32.ofNat d')) ways (Int32.ofNat 1) (Int32.ofNat (p + 1))) ∨
    ((∃ q, q < n ∧ r p q ∧ D q = -1) ∧ xf_rf_findDepths_66 items lines numbers parts sorts values k27 k35 N M D ways v1 (Int32.ofNat p) (Int32.ofNat d) (Int32.ofNat 1) (Int32.ofNat l) = k35 D ways v1 (Int32.ofNat (p + 1))) := by
  intro k
  induction k with
  | zero =>
    intro l M d hk hM hd h1 h2
    obtain ⟨M', rfl⟩ : ∃ M', M = M' + 1 := ⟨M - 1, by omega⟩
    refine Or.inl ⟨d, hd, fun q hq => h1 q (by omega), h2, ?_⟩
    simp (disch := omega) only [xf_rf_findDepths_66_s, xf_rf_findDepths_166_s, wq_ltT, wq_ltF, wq_inT, wq_clamp, wq_eqF, wq_eqm, wq_meq, wq_add, wq_mul, wq_subT, eq_self, Bool.false_eq_true, ↓reduceIte, Option.bind_some, Sum.elim_inl, Sum.elim_inr, ↓wq_f0b, ↓wq_f1b, ↓wq_f2b, ↓wq_r0b, ↓wq_r1b, ↓Option.bind_some, hl]
  | succ k ih =>
    intro l M d hk hM hd h1 h2
    obtain ⟨M', rfl⟩ : ∃ M', M = M' + 1 := ⟨M - 1, by omega⟩
    have hb := hw l (by omega)
    cases hbit : wq_bit (ways p) l with
    | false =>
      have hnr : ¬ r p l := fun hr => by
        have := hb.mpr ⟨by omega, hr⟩
        rw [hbit] at this
        exact absurd this (by decide)
      have key := ih (l + 1) M' d (by omega) (by omega) hd (fun q hq hr => by
        by_cases e : q = l
        · subst e
          exact absurd hr hnr
        · exact h1 q (by omega) hr) h2
      have e : xf_rf_findDepths_66 items lines numbers parts sorts values k27 k35 N (M' + 1) D ways v1 (Int32.ofNat p) (Int32.ofNat d) (Int32.ofNat 1) (Int32.ofNat l) = xf_rf_findDepths_66 items lines numbers parts sorts values k27 k35 N M' D ways v1 (Int32.ofNat p) (Int32.ofNat d) (Int32.ofNat 1) (Int32.ofNat (l + 1)) := by
        rw [xf_rf_findDepths_66_s]
        simp (disch := omega) only [xf_rf_findDepths_146_s, wq_ltT, wq_ltF, wq_inT, wq_clamp, wq_eqF, wq_eqm, wq_meq, wq_add, wq_mul, wq_subT, eq_self, Bool.false_eq_true, ↓reduceIte, Option.bind_some, Sum.elim_inl, Sum.elim_inr, ↓wq_f0b, ↓wq_f1b, ↓wq_f2b, ↓wq_r0b, ↓wq_r1b, ↓Option.bind_some, hl, wq_cmp0, wq_ts, hbit]
      rw [e]
      exact key
    | true =>
      obtain ⟨hln, hr⟩ := hb.mp hbit
      have et : (true = false) = False := by decide
      rcases hD l hln with hm | ⟨e, he, hde⟩
      · refine Or.inr ⟨⟨l, hln, hr, hm⟩, ?_⟩
        have eb := fun x => wq_dep66b (items := items) (lines := lines) (numbers := numbers) (parts := parts) (sorts := sorts) (values := values) (ways := ways) (N := N) hn hl hp D v1 k27 k35 k (l + 1) M' x (by omega) (by omega)
        rw [xf_rf_findDepths_66_s]
        simp (disch := omega) only [xf_rf_findDepths_116_s, xf_rf_findDepths_117_s, xf_rf_findDepths_145_s, xf_rf_findDepths_146_s, wq_ltT, wq_ltF, wq_inT, wq_clamp, wq_eqF, wq_eqm, wq_meq, wq_add, wq_mul, wq_subT, eq_self, Bool.false_eq_true, ↓reduceIte, Option.bind_some, Sum.elim_inl, Sum.elim_inr, ↓wq_f0b, ↓wq_f1b, ↓wq_f2b, ↓wq_r0b, ↓wq_r1b, ↓Option.bind_some, hl, wq_cmp0, wq_ts, hbit, et, hm, eb, ite_self]
      · by_cases hde2 : d < e + 1
        · have key := ih (l + 1) M' (e + 1) (by omega) (by omega) (by omega) (fun q hq hr' => by
            by_cases eq : q = l
            · subst eq
              exact ⟨e, by omega, hde⟩
            · obtain ⟨e', e1, e2⟩ := h1 q (by omega) hr'
              exact ⟨e', by omega, e2⟩) (Or.inr ⟨l, hln, hr, by rw [show e + 1 - 1 = e by omega]; exact hde⟩)
          have ee : xf_rf_findDepths_66 items lines numbers parts sorts values k27 k35 N (M' + 1) D ways v1 (Int32.ofNat p) (Int32.ofNat d) (Int32.ofNat 1) (Int32.ofNat l) = xf_rf_findDepths_66 items lines numbers parts sorts values k27 k35 N M' D ways v1 (Int32.ofNat p) (Int32.ofNat (e + 1)) (Int32.ofNat 1) (Int32.ofNat (l + 1)) := by
            rw [xf_rf_findDepths_66_s]
            simp (disch := omega) only [xf_rf_findDepths_117_s, xf_rf_findDepths_145_s, xf_rf_findDepths_146_s, wq_ltT, wq_ltF, wq_inT, wq_clamp, wq_eqF, wq_eqm, wq_meq, wq_add, wq_mul, wq_subT, eq_self, Bool.false_eq_true, ↓reduceIte, Option.bind_some, Sum.elim_inl, Sum.elim_inr, ↓wq_f0b, ↓wq_f1b, ↓wq_f2b, ↓wq_r0b, ↓wq_r1b, ↓Option.bind_some, hl, wq_cmp0, wq_ts, hbit, et, hde]
          rw [ee]
          exact key
        · have key := ih (l + 1) M' d (by omega) (by omega) hd (fun q hq hr' => by
            by_cases eq : q = l
            · subst eq
              exact ⟨e, by omega, hde⟩
            · exact h1 q (by omega) hr') h2
          have ee : xf_rf_findDepths_66 items lines numbers parts sorts values k27 k35 N (M' + 1) D ways v1 (Int32.ofNat p) (Int32.ofNat d) (Int32.ofNat 1) (Int32.ofNat l) = xf_rf_findDepths_66 items lines numbers parts sorts values k27 k35 N M' D ways v1 (Int32.ofNat p) (Int32.ofNat d) (Int32.ofNat 1) (Int32.ofNat (l + 1)) := by
            rw [xf_rf_findDepths_66_s]
            simp (disch := omega) only [xf_rf_findDepths_117_s, xf_rf_findDepths_145_s, xf_rf_findDepths_146_s, wq_ltT, wq_ltF, wq_inT, wq_clamp, wq_eqF, wq_eqm, wq_meq, wq_add, wq_mul, wq_subT, eq_self, Bool.false_eq_true, ↓reduceIte, Option.bind_some, Sum.elim_inl, Sum.elim_inr, ↓wq_f0b, ↓wq_f1b, ↓wq_f2b, ↓wq_r0b, ↓wq_r1b, ↓Option.bind_some, hl, wq_cmp0, wq_ts, hbit, et, hde]
          rw [ee]
          exact key
/-- one pass -/
theorem wq_dep35 {N : Nat} (hN : 60 ≤ N) (hn : n ≤ 40) (hl : lines 0 = Int32.ofNat n) (hw : ∀ p, p < n → ∀ j, j < 64 → (wq_bit (ways p) j = true ↔ (j < n ∧ r p j))) (k27 : (Nat → Int32) → (Nat → Int64) → Int32 → Option (Unit × (Nat → Int32) × (Nat → Int64))) :
    ∀ k p M (D : Nat → Int32) (b : Nat), p + k = n → k < M → wq_PD n r D → (b = 0 ∨ b = 1) → (b = 0 → ∀ q, q < p → D q = -1 → ∃ q', q' < n ∧ r q q' ∧ D q' = -1) →
    ∃ (D' : Nat → Int32) (b' : Nat), wq_PD n r D' ∧ xf_rf_findDepths_35 items lines numbers parts sorts values k27 N M D ways (Int32.ofNat b) (Int32.ofNat p) = k27 D' ways (Int32.ofNat b') ∧ (b' = 0 ∨ b' = 1) ∧ (b' = 0 → ∀ q, q < n → D' q = -1 → ∃ q', q' < n ∧ r q q' ∧ D' q' = -1) ∧ wq_cnt D' n ≤ wq_cnt D n ∧ (b' = 1 → b = 1 ∨ wq_cnt D' n < wq_cnt D n) := by
  intro k
  induction k with
  | zero =>
    intro p M D b hk hM hD hb h0
    obtain ⟨M', rfl⟩ : ∃ M', M = M' + 1 := ⟨M - 1, by omega⟩
    refine ⟨D, b, hD, ?_, hb, fun e q hq => h0 e q (by omega), Nat.le_refl _, fun e => Or.inl e⟩
    simp (disch := omega) only [xf_rf_findDepths_35_s, wq_ltT, wq_ltF, wq_inT, wq_clamp, wq_eqF, wq_eqm, wq_meq, wq_add, wq_mul, wq_subT, eq_self, Bool.false_eq_true, ↓reduceIte, Option.bind_some, Sum.elim_inl, Sum.elim_inr, ↓wq_f0b, ↓wq_f1b, ↓wq_f2b, ↓wq_r0b, ↓wq_r1b, ↓Option.bind_some, hl]
  | succ k ih =>
    intro p M D b hk hM hD hb h0
    obtain ⟨M', rfl⟩ : ∃ M', M = M' + 1 := ⟨M - 1, by omega⟩
    have hp : p < n := by omega
    rcases wq_PD_val hn hD hp with hm | ⟨d, hd1, hd2⟩
    · have step : xf_rf_findDepths_35 items lines numbers parts sorts values k27 N (M' + 1) D ways (Int32.ofNat b) (Int32.ofNat p) = xf_rf_findDepths_66 items lines numbers parts sorts values k27 (xf_rf_findDepths_35 items lines numbers parts sorts values k27 N M') N N D ways (Int32.ofNat b) (Int32.ofNat p) (Int32.ofNat 0) (Int32.ofNat 1) (Int32.ofNat 0) := by
        rw [xf_rf_findDepths_35_s]
        simp (disch := omega) only [wq_ltT, wq_ltF, wq_inT, wq_clamp, wq_eqF, wq_eqm, wq_meq, wq_add, wq_mul, wq_subT, eq_self, Bool.false_eq_true, ↓reduceIte, Option.bind_some, Sum.elim_inl, Sum.elim_inr, ↓wq_f0b, ↓wq_f1b, ↓wq_f2b, ↓wq_r0b, ↓wq_r1b, ↓Option.bind_some, hl, hm]
      rcases wq_dep66a (items := items) (lines := lines) (numbers := numbers) (parts := parts) (sorts := sorts) (values := values) (N := N) hn hl hp (hw p hp) D (fun q hq => wq_PD_val hn hD hq) (Int32.ofNat b) k27 (xf_rf_findDepths_35 items lines numbers parts sorts values k27 N M') n 0 N 0 (by omega) (by omega) (by omega) (fun q hq => absurd hq (by omega)) (Or.inl rfl) with ⟨d, g1, g2, g3, g4⟩ | ⟨g1, g2⟩
      · have c1 := wq_cnt_upd (D := D) (p := p) (d := d) hm (by omega) n
        rw [if_pos hp] at c1
        obtain ⟨D', b', i1, i2, i3, i4, i5, i6⟩ := ih (p + 1) M' (upd D p (Int32.ofNat d)) 1 (by omega) (by omega) (wq_PD_upd hn hD hp hm g1 g2 g3) (Or.inr rfl) (fun e => absurd e (by omega))
        refine ⟨D', b', i1, ?_, i3, i4, by omega, fun _ => Or.inr (by omega)⟩
        rw [step, g4, i2]
      · obtain ⟨D', b', i1, i2, i3, i4, i5, i6⟩ := ih (p + 1) M' D b (by omega) (by omega) hD hb (fun e q hq hqm => by
          by_cases eq : q = p
          · subst eq
            exact g1
          · exact h0 e q (by omega) hqm)
        refine ⟨D', b', i1, ?_, i3, i4, i5, i6⟩
        rw [step, g2, i2]
    · obtain ⟨D', b', i1, i2, i3, i4, i5, i6⟩ := ih (p + 1) M' D b (by omega) (by omega) hD hb (fun e q hq hqm => by
        by_cases eq : q = p
        · subst eq
          rw [hd2] at hqm
          exact ((wq_eqm (by omega)).mp hqm).elim
        · exact h0 e q (by omega) hqm)
      refine ⟨D', b', i1, ?_, i3, i4, i5, i6⟩
      rw [← i2, xf_rf_findDepths_35_s]
      simp (disch := omega) only [xf_rf_findDepths_166_s, wq_ltT, wq_ltF, wq_inT, wq_clamp, wq_eqF, wq_eqm, wq_meq, wq_add, wq_mul, wq_subT, eq_self, Bool.false_eq_true, ↓reduceIte, Option.bind_some, Sum.elim_inl, Sum.elim_inr, ↓wq_f0b, ↓wq_f1b, ↓wq_f2b, ↓wq_r0b, ↓wq_r1b, ↓Option.bind_some, hl, hd2]
theorem wq_dep27 {N : Nat} (hN : 60 ≤ N) (hn : n ≤ 40) (hl : lines 0 = Int32.ofNat n) (hw : ∀ p, p < n → ∀ j, j < 64 → (wq_bit (ways p) j = true ↔ (j < n ∧ r p j))) :
    ∀ k M (D : Nat → Int32), wq_cnt D n ≤ k → k + 2 ≤ M → wq_PD n r D → ∃ D', wi_D n r D' ∧ xf_rf_findDepths_27 items lines numbers parts sorts values N M D ways (Int32.ofNat 1) = some ((), D', ways) := by
  intro k
  induction k with
  | zero =>
    intro M D hc hM hD
    obtain ⟨M', rfl⟩ : ∃ M', M = M' + 1 + 1 := ⟨M - 2, by omega⟩
    obtain ⟨D', b', i1, i2, i3, i4, i5, i6⟩ := wq_dep35 (items := items) (lines := lines) (numbers := numbers) (parts := parts) (sorts := sorts) (values := values) hN hn hl hw (xf_rf_findDepths_27 items lines numbers parts sorts values N (M' + 1)) n 0 N D 0 (by omega) (by omega) hD (Or.inl rfl) (fun _ q hq => absurd hq (by omega))
    have hb : b' = 0 := by
      rcases i3 with i3 | i3
      · exact i3
      · rcases i6 i3 with h | h <;> omega
    refine ⟨D', wq_PD_end hn i1 (i4 hb), ?_⟩
    have e : xf_rf_findDepths_27 items lines numbers parts sorts values N (M' + 1 + 1) D ways (Int32.ofNat 1) = xf_rf_findDepths_35 items lines numbers parts sorts values (xf_rf_findDepths_27 items lines numbers parts sorts values N (M' + 1)) N N D ways (Int32.ofNat 0) (Int32.ofNat 0) := by
      rw [xf_rf_findDepths_27_s]
      simp (disch := omega) only [wq_ltT, wq_ltF, wq_inT, wq_clamp, wq_eqF, wq_eqm, wq_meq, wq_add, wq_mul, wq_subT, eq_self, Bool.false_eq_true, ↓reduceIte, Option.bind_some, Sum.elim_inl, Sum.elim_inr, ↓wq_f0b, ↓wq_f1b, ↓wq_f2b, ↓wq_r0b, ↓wq_r1b, ↓Option.bind_some]
    rw [e, i2, hb, xf_rf_findDepths_27_s, if_pos rfl]
  | succ k ih =>
    intro M D hc hM hD
    obtain ⟨M', rfl⟩ : ∃ M', M = M' + 1 + 1 := ⟨M - 2, by omega⟩
    obtain ⟨D', b', i1, i2, i3, i4, i5, i6⟩ := wq_dep35 (items := items) (lines := lines) (numbers := numbers) (parts := parts) (sorts := sorts) (values := values) hN hn hl hw (xf_rf_findDepths_27 items lines numbers parts sorts values N (M' + 1)) n 0 N D 0 (by omega) (by omega) hD (Or.inl rfl) (fun _ q hq => absurd hq (by omega))
    have e : xf_rf_findDepths_27 items lines numbers parts sorts values N (M' + 1 + 1) D ways (Int32.ofNat 1) = xf_rf_findDepths_35 items lines numbers parts sorts values (xf_rf_findDepths_27 items lines numbers parts sorts values N (M' + 1)) N N D ways (Int32.ofNat 0) (Int32.ofNat 0) := by
      rw [xf_rf_findDepths_27_s]
      simp (disch := omega) only [wq_ltT, wq_ltF, wq_inT, wq_clamp, wq_eqF, wq_eqm, wq_meq, wq_add, wq_mul, wq_subT, eq_self, Bool.false_eq_true, ↓reduceIte, Option.bind_some, Sum.elim_inl, Sum.elim_inr, ↓wq_f0b, ↓wq_f1b, ↓wq_f2b, ↓wq_r0b, ↓wq_r1b, ↓Option.bind_some]
    rcases i3 with hb | hb
    · refine ⟨D', wq_PD_end hn i1 (i4 hb), ?_⟩
      rw [e, i2, hb, xf_rf_findDepths_27_s, if_pos rfl]
    · have hlt : wq_cnt D' n < wq_cnt D n := by
        rcases i6 hb with h | h
        · omega
        · exact h
      obtain ⟨D2, j1, j2⟩ := ih (M' + 1) D' (by omega) (by omega) i1
      exact ⟨D2, j1, by rw [e, i2, hb, j2]⟩
theorem wq_dep6 {N : Nat} (hN : 60 ≤ N) (hn : n ≤ 40) (hl : lines 0 = Int32.ofNat n) (hw : ∀ p, p < n → ∀ j, j < 64 → (wq_bit (ways p) j = true ↔ (j < n ∧ r p j))) :
    ∀ k p M (D : Nat → Int32), p + k = 40 → k < M → (∀ q, q < p → D q = -1) → ∃ D', wi_D n r D' ∧ xf_rf_findDepths_6 items lines numbers parts sorts values N M D ways (Int32.ofNat p) = some ((), D', ways) := by
  intro k
  induction k with
  | zero =>
    intro p M D hp hM hD
    obtain ⟨M', rfl⟩ : ∃ M', M = M' + 1 := ⟨M - 1, by omega⟩
    obtain ⟨D', j1, j2⟩ := wq_dep27 (items := items) (lines := lines) (numbers := numbers) (parts := parts) (sorts := sorts) (values := values) hN hn hl hw n N D (wq_cnt_le D n) (by omega) (fun q hq => Or.inl (hD q (by omega)))
    refine ⟨D', j1, ?_⟩
    rw [← j2]
    simp (disch := omega) only [xf_rf_findDepths_6_s, wq_ltT, wq_ltF, wq_inT, wq_clamp, wq_eqF, wq_eqm, wq_meq, wq_add, wq_mul, wq_subT, eq_self, Bool.false_eq_true, ↓reduceIte, Option.bind_some, Sum.elim_inl, Sum.elim_inr, ↓wq_f0b, ↓wq_f1b, ↓wq_f2b, ↓wq_r0b, ↓wq_r1b, ↓Option.bind_some]
  | succ k ih =>
    intro p M D hp hM hD
    obtain ⟨M', rfl⟩ : ∃ M', M = M' + 1 := ⟨M - 1, by omega⟩
    obtain ⟨D', j1, j2⟩ := ih (p + 1) M' (upd D p (-1)) (by omega) (by omega) (fun q hq => by
      by_cases e : q = p
      · rw [e, wq_upd1]
      · rw [wq_upd2 e]
        exact hD q (by omega))
    refine ⟨D', j1, ?_⟩
    rw [← j2]
    simp (disch := omega) only [xf_rf_findDepths_6_s, wq_ltT, wq_ltF, wq_inT, wq_clamp, wq_eqF, wq_eqm, wq_meq, wq_add, wq_mul, wq_subT, eq_self, Bool.false_eq_true, ↓reduceIte, Option.bind_some, Sum.elim_inl, Sum.elim_inr, ↓wq_f0b, ↓wq_f1b, ↓wq_f2b, ↓wq_r0b, ↓wq_r1b, ↓Option.bind_some]
end
theorem wq_findDepths {n : Nat} {a z m : Nat → Nat} {t c : Nat → Nat → Nat} {rl : Int32} {numbers letters names parts sorts values items lines : Nat → Int32} (hV : wi_V n a z m t c rl numbers letters names parts sorts values items) (hl : lines 0 = Int32.ofNat n) {N : Nat} (hN : 60 ≤ N) (D : Nat → Int32) (ways : Nat → Int64) :
    ∃ D' ways', xf_rf_findDepths items lines numbers parts sorts values N D ways = some ((), D', ways') ∧ wi_D n (wi_ref a z t c values items) D' ∧ ∀ p, p < n → ∀ j, j < 64 → (wq_bit (ways' p) j = true ↔ (j < n ∧ wi_ref a z t c values items p j)) := by
  obtain ⟨ways', w1, w2⟩ := wq_findWays hV hl (N := N) (by omega) ways
  obtain ⟨D', d1, d2⟩ := wq_dep6 (items := items) (lines := lines) (numbers := numbers) (parts := parts) (sorts := sorts) (values := values) (r := wi_ref a z t c values items) hN hV.1.1 hl w2 40 0 N D (by omega) (by omega) (fun q hq => absurd hq (by omega))
  refine ⟨D', ways', ?_, d1, w2⟩
  rw [xf_rf_findDepths_s, w1, Option.bind_some]
  exact d2
/-- depths are what they are -/
theorem wi_D_uniq {n : Nat} {r : Nat → Nat → Prop} {D D' : Nat → Int32} (hn : n ≤ 40) (h : wi_D n r D) (h' : wi_D n r D') : ∀ p, p < n → D p = D' p := by
  have key : ∀ (E E' : Nat → Int32), wi_D n r E → wi_D n r E' → ∀ d p, p < n → d < n → E p = Int32.ofNat d → E' p = Int32.ofNat d := by
    intro E E' hE hE' d
    induction d using Nat.strongRecOn with
    | ind d ih =>
      intro p hp hdn hd
      rcases hE p hp with ⟨g1, _⟩ | ⟨d1, g0, g1, g2, g3⟩
      · rw [hd] at g1
        exact ((wq_eqm (by omega)).mp g1).elim
      · rw [hd] at g1
        have e := wq_inj (by omega) (by omega) g1
        subst e
        rcases hE' p hp with ⟨_, q, q1, q2, q3⟩ | ⟨d2, f0, f1, f2, f3⟩
        · obtain ⟨e, e1, e2⟩ := g2 q q1 q2
          have := ih e e1 q q1 (by omega) e2
          rw [q3] at this
          exact ((wq_meq (by omega)).mp this).elim
        · have le1 : d2 ≤ d := by
            rcases f3 with f3 | ⟨q, q1, q2, q3⟩
            · omega
            · obtain ⟨e, e1, e2⟩ := g2 q q1 q2
              have h5 := ih e e1 q q1 (by omega) e2
              rw [q3] at h5
              have := wq_inj (by omega) (by omega) h5
              omega
          have le2 : d ≤ d2 := by
            rcases g3 with g3 | ⟨q, q1, q2, q3⟩
            · omega
            · by_cases d0 : d = 0
              · omega
              · have h5 := ih (d - 1) (by omega) q q1 (by omega) q3
                obtain ⟨e, e1, e2⟩ := f2 q q1 q2
                rw [h5] at e2
                have := wq_inj (by omega) (by omega) e2
                omega
          rw [f1, show d2 = d by omega]
  intro p hp
  rcases h p hp with ⟨g1, _⟩ | ⟨d, g0, g1, _⟩
  · rcases h' p hp with ⟨f1, _⟩ | ⟨d, f0, f1, _⟩
    · rw [g1, f1]
    · have := key D' D h' h d p hp f0 f1
      rw [f1, this]
  · have := key D D' h h' d p hp g0 g1
    rw [g1, this]
