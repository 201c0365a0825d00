/-! WHO REFERS TO WHOM, on the reference's side. -/
/-- how many references an argument has, and what they are -/
def wq_rc (t c : Nat) : Nat := if t = 2 then 1 else if t = 4 then c else 0
def wq_tg (a : Nat → Nat) (n t : Nat) (v : Int32) (it : Nat → Int32) (i : Nat) : Nat := wq_ix a n (if t = 2 then v else it i)
section
variable {n : Nat} {a z m : Nat → Nat} {t c : Nat → Nat → Nat} {rl : Int32} {numbers letters names parts sorts values items lines : Nat → Int32}
theorem wq_ix_at (hV : wi_V n a z m t c rl numbers letters names parts sorts values items) {q : Nat} (hq : q < n) : wq_fx a n (Int32.ofNat (a q)) = some q :=
  wq_fx_at hq (fun p hp => by have := hV.2.1 p hp; omega) (fun p r h1 h2 => hV.2.2.1 p r h1 h2)
/-- a reference stands for a line -/
theorem wq_tg_lt (hV : wi_V n a z m t c rl numbers letters names parts sorts values items) {p k i : Nat} (hp : p < n) (hk : k < z p) (hi : i < wq_rc (t p k) (c p k)) :
    wq_tg a n (t p k) (values (8 * p + k)) (fun i => items (20 * (8 * p + k) + i)) i < n ∧ (if t p k = 2 then values (8 * p + k) else items (20 * (8 * p + k) + i)) = Int32.ofNat (a (wq_tg a n (t p k) (values (8 * p + k)) (fun i => items (20 * (8 * p + k) + i)) i)) ∧ wq_fx a n (if t p k = 2 then values (8 * p + k) else items (20 * (8 * p + k) + i)) = some (wq_tg a n (t p k) (values (8 * p + k)) (fun i => items (20 * (8 * p + k) + i)) i) := by
  have w := (hV.2.2.2.2.2 p k hp hk).2
  have key : ∃ q, q < n ∧ (if t p k = 2 then values (8 * p + k) else items (20 * (8 * p + k) + i)) = Int32.ofNat (a q) := by
    unfold wq_rc at hi
    by_cases h2 : t p k = 2
    · rw [if_pos h2]
      exact (w.2.2.2.2.1 h2).2
    · rw [if_neg h2] at hi ⊢
      by_cases h4 : t p k = 4
      · rw [if_pos h4] at hi
        exact (w.2.2.2.2.2.2.1 h4).2.2 i hi
      · rw [if_neg h4] at hi
        exact absurd hi (by omega)
  obtain ⟨q, hq, e⟩ := key
  have e2 : wq_tg a n (t p k) (values (8 * p + k)) (fun i => items (20 * (8 * p + k) + i)) i = q := by
    unfold wq_tg wq_ix
    show (wq_fx a n (if t p k = 2 then values (8 * p + k) else items (20 * (8 * p + k) + i))).getD 0 = q
    rw [e, wq_ix_at hV hq]
    rfl
  rw [e2]
  exact ⟨hq, e, by rw [e]; exact wq_ix_at hV hq⟩
theorem wq_ref_iff (hV : wi_V n a z m t c rl numbers letters names parts sorts values items) {p q : Nat} (hp : p < n) (hq : q < n) :
    wi_ref a z t c values items p q ↔ ∃ k i, k < z p ∧ i < wq_rc (t p k) (c p k) ∧ wq_tg a n (t p k) (values (8 * p + k)) (fun i => items (20 * (8 * p + k) + i)) i = q := by
  have inj : ∀ q', q' < n → Int32.ofNat (a q') = Int32.ofNat (a q) → q' = q := by
    intro q' hq' e
    have h1 := wq_ix_at hV hq'
    rw [e, wq_ix_at hV hq] at h1
    exact (Option.some.inj h1).symm
  constructor
  · rintro ⟨k, hk, ⟨h2, e⟩ | ⟨h4, i, hi, e⟩⟩
    · have hr : 0 < wq_rc (t p k) (c p k) := by
        unfold wq_rc
        rw [if_pos h2]
        omega
      obtain ⟨g1, g2, _⟩ := wq_tg_lt hV hp hk hr
      refine ⟨k, 0, hk, hr, inj _ g1 ?_⟩
      rw [if_pos h2] at g2
      rw [← g2, e]
    · have hr : i < wq_rc (t p k) (c p k) := by
        unfold wq_rc
        rw [if_neg (by omega), if_pos h4]
        exact hi
      obtain ⟨g1, g2, _⟩ := wq_tg_lt hV hp hk hr
      refine ⟨k, i, hk, hr, inj _ g1 ?_⟩
      rw [if_neg (by omega)] at g2
      rw [← g2, e]
  · rintro ⟨k, i, hk, hi, e⟩
    obtain ⟨g1, g2, _⟩ := wq_tg_lt hV hp hk hi
    rw [e] at g2
    unfold wq_rc at hi
    refine ⟨k, hk, ?_⟩
    by_cases h2 : t p k = 2
    · rw [if_pos h2] at g2
      exact Or.inl ⟨h2, g2⟩
    · rw [if_neg h2] at hi g2
      by_cases h4 : t p k = 4
      · rw [if_pos h4] at hi
        exact Or.inr ⟨h4, i, hi, g2⟩
      · rw [if_neg h4] at hi
        exact absurd hi (by omega)
theorem wq_references (hV : wi_V n a z m t c rl numbers letters names parts sorts values items) {p k : Nat} (hp : p < n) (hk : k < z p) : xf_rf_references sorts values (Int32.ofNat (8 * p + k)) = some (Int32.ofNat (wq_rc (t p k) (c p k))) := by
  obtain ⟨⟨hn, _⟩, _, _, _, v5, v6⟩ := hV
  obtain ⟨_, _, z1⟩ := v5 p hp
  obtain ⟨w1, w2, w3, w4, w5, w6, w7, w8, _⟩ := v6 p k hp hk
  unfold wq_rc
  by_cases h2 : t p k = 2
  · simp (disch := omega) only [↓xf_rf_references_34_s, ↓xf_rf_references_s, wq_ltT, wq_ltF, wq_inT, wq_clamp, wq_eqF, wq_eqm, wq_meq, wq_add, wq_mul, wq_subT, eq_self, Bool.false_eq_true, ↓reduceIte, Option.bind_some, Sum.elim_inl, Sum.elim_inr, ↓wq_f0b, ↓wq_f1b, ↓wq_f2b, ↓wq_r0b, ↓wq_r1b, ↓Option.bind_some, w1, h2]
  · rw [if_neg h2]
    by_cases h4 : t p k = 4
    · rw [if_pos h4]
      simp (disch := omega) only [↓xf_rf_references_34_s, ↓xf_rf_references_s, wq_ltT, wq_ltF, wq_inT, wq_clamp, wq_eqF, wq_eqm, wq_meq, wq_add, wq_mul, wq_subT, eq_self, Bool.false_eq_true, ↓reduceIte, Option.bind_some, Sum.elim_inl, Sum.elim_inr, ↓wq_f0b, ↓wq_f1b, ↓wq_f2b, ↓wq_r0b, ↓wq_r1b, ↓Option.bind_some, w1, h4, (w8 h4).1]
    · simp (disch := omega) only [↓xf_rf_references_34_s, ↓xf_rf_references_s, wq_ltT, wq_ltF, wq_inT, wq_clamp, wq_eqF, wq_eqm, wq_meq, wq_add, wq_mul, wq_subT, eq_self, Bool.false_eq_true, ↓reduceIte, Option.bind_some, Sum.elim_inl, Sum.elim_inr, ↓wq_f0b, ↓wq_f1b, ↓wq_f2b, ↓wq_r0b, ↓wq_r1b, ↓Option.bind_some, w1, h2, h4]
theorem wq_referred (hV : wi_V n a z m t c rl numbers letters names parts sorts values items) (hl : lines 0 = Int32.ofNat n) {N : Nat} (hN : 41 ≤ N) {p k i : Nat} (hp : p < n) (hk : k < z p) (hi : i < wq_rc (t p k) (c p k)) : xf_rf_referred items lines numbers sorts values N (Int32.ofNat (8 * p + k)) (Int32.ofNat i) = some (Int32.ofNat (wq_tg a n (t p k) (values (8 * p + k)) (fun i => items (20 * (8 * p + k) + i)) i)) := by
  obtain ⟨_, _, g3⟩ := wq_tg_lt hV hp hk hi
  obtain ⟨⟨hn, _⟩, v2, _, _, v5, v6⟩ := hV
  obtain ⟨_, _, z1⟩ := v5 p hp
  obtain ⟨w1, w2, w3, _⟩ := v6 p k hp hk
  have hi2 : i < 20 ∨ t p k = 2 := by
    unfold wq_rc at hi
    by_cases h2 : t p k = 2
    · exact Or.inr h2
    · rw [if_neg h2] at hi
      by_cases h4 : t p k = 4
      · rw [if_pos h4] at hi
        exact Or.inl (by omega)
      · rw [if_neg h4] at hi
        exact absurd hi (by omega)
  have e := fun x => wq_find (b := 0) (a := a) (lines := lines) (numbers := numbers) 0 rfl (by omega) hn hl (fun p hp => by rw [Nat.zero_add]; exact (v2 p hp).1) hN x
  by_cases h2 : t p k = 2
  · rw [if_pos h2] at g3
    have e' := e (values (8 * p + k))
    rw [g3] at e'
    simp (disch := omega) only [↓xf_rf_referred_32_s, ↓xf_rf_referred_s, wq_ltT, wq_ltF, wq_inT, wq_clamp, wq_eqF, wq_eqm, wq_meq, wq_add, wq_mul, wq_subT, eq_self, Bool.false_eq_true, ↓reduceIte, Option.bind_some, Sum.elim_inl, Sum.elim_inr, ↓wq_f0b, ↓wq_f1b, ↓wq_f2b, ↓wq_r0b, ↓wq_r1b, ↓Option.bind_some, w1, h2, e', wq_or, Nat.zero_add]
  · rw [if_neg h2] at g3
    have e' := e (items (20 * (8 * p + k) + i))
    rw [g3] at e'
    simp (disch := omega) only [↓xf_rf_referred_32_s, ↓xf_rf_referred_s, wq_ltT, wq_ltF, wq_inT, wq_clamp, wq_eqF, wq_eqm, wq_meq, wq_add, wq_mul, wq_subT, eq_self, Bool.false_eq_true, ↓reduceIte, Option.bind_some, Sum.elim_inl, Sum.elim_inr, ↓wq_f0b, ↓wq_f1b, ↓wq_f2b, ↓wq_r0b, ↓wq_r1b, ↓Option.bind_some, w1, h2, e', wq_or, Nat.zero_add]
/-- the references of one argument -/
theorem wq_ways41 (hV : wi_V n a z m t c rl numbers letters names parts sorts values items) (hl : lines 0 = Int32.ofNat n) {N : Nat} (hN : 41 ≤ N) {p k : Nat} (hp : p < n) (hk : k < z p) (k2 : (Nat → Int64) → Int32 → Option (Unit × (Nat → Int64))) (k24 : (Nat → Int64) → Int32 → Int32 → Option (Unit × (Nat → Int64))) : ∀ l i M (w : Nat → Int64) (x : Int64), i + l = wq_rc (t p k) (c p k) → l < M →
    ∃ x', (∀ j, j < 64 → (wq_bit x' j = true ↔ (wq_bit x j = true ∨ ∃ i', i ≤ i' ∧ i' < wq_rc (t p k) (c p k) ∧ wq_tg a n (t p k) (values (8 * p + k)) (fun i => items (20 * (8 * p + k) + i)) i' = j))) ∧
      xf_rf_findWays_41 items lines numbers parts sorts values k2 k24 N M (vp_updL w p x) (Int32.ofNat p) (Int32.ofNat (8 * p + k)) (Int32.ofNat i) = k24 (vp_updL w p x') (Int32.ofNat p) (Int32.ofNat (8 * p + k + 1)) := by
  have er := wq_references hV hp hk
  have hn := hV.1.1
  have hz := (hV.2.2.2.2.1 p hp).2.2
  have hr : wq_rc (t p k) (c p k) ≤ 20 := by
    have := (hV.2.2.2.2.2 p k hp hk).2.2.1
    unfold wq_rc
    split
    · omega
    · split <;> omega
  intro l
  induction l with
  | zero =>
    intro i M w x hi hM
    obtain ⟨M', rfl⟩ : ∃ M', M = M' + 1 := ⟨M - 1, by omega⟩
    refine ⟨x, fun j _ => ⟨fun h => Or.inl h, fun h => ?_⟩, ?_⟩
    · rcases h with h | ⟨i', h1, h2, _⟩
      · exact h
      · exact absurd h2 (by omega)
    · simp (disch := omega) only [xf_rf_findWays_41_s, wq_ltT, wq_ltF, wq_inT, wq_clamp, wq_eqF, wq_eqm, wq_meq, wq_add, wq_mul, wq_subT, eq_self, Bool.false_eq_true, ↓reduceIte, Option.bind_some, Sum.elim_inl, Sum.elim_inr, ↓wq_f0b, ↓wq_f1b, ↓wq_f2b, ↓wq_r0b, ↓wq_r1b, ↓Option.bind_some, er]
  | succ l ih =>
    intro i M w x hi hM
    obtain ⟨M', rfl⟩ : ∃ M', M = M' + 1 := ⟨M - 1, by omega⟩
    have ef := wq_referred hV hl hN hp hk (i := i) (by omega)
    obtain ⟨g1, _⟩ := wq_tg_lt hV hp hk (i := i) (by omega)
    obtain ⟨x', b1, b2⟩ := ih (i + 1) M' w (x ||| xe_shl (1 : Int64) (Int32.ofNat (wq_tg a n (t p k) (values (8 * p + k)) (fun i => items (20 * (8 * p + k) + i)) i))) (by omega) (by omega)
    refine ⟨x', fun j hj => ?_, ?_⟩
    · rw [b1 j hj, wq_bit_or, wq_bit1 (by omega) hj, Bool.or_eq_true, decide_eq_true_eq]
      constructor
      · rintro ((h | h) | ⟨i', h1, h2, h3⟩)
        · exact Or.inl h
        · exact Or.inr ⟨i, Nat.le_refl i, by omega, h.symm⟩
        · exact Or.inr ⟨i', by omega, h2, h3⟩
      · rintro (h | ⟨i', h1, h2, h3⟩)
        · exact Or.inl (Or.inl h)
        · by_cases e : i' = i
          · subst e
            exact Or.inl (Or.inr h3.symm)
          · exact Or.inr ⟨i', by omega, h2, h3⟩
    · rw [← b2]
      simp (disch := omega) only [xf_rf_findWays_41_s, wq_ltT, wq_ltF, wq_inT, wq_clamp, wq_eqF, wq_eqm, wq_meq, wq_add, wq_mul, wq_subT, eq_self, Bool.false_eq_true, ↓reduceIte, Option.bind_some, Sum.elim_inl, Sum.elim_inr, ↓wq_f0b, ↓wq_f1b, ↓wq_f2b, ↓wq_r0b, ↓wq_r1b, ↓Option.bind_some, er, ef, wq_lupd1, wq_lupd]
/-- the references of one line -/
theorem wq_ways24 (hV : wi_V n a z m t c rl numbers letters names parts sorts values items) (hl : lines 0 = Int32.ofNat n) {N : Nat} (hN : 41 ≤ N) {p : Nat} (hp : p < n) (k2 : (Nat → Int64) → Int32 → Option (Unit × (Nat → Int64))) : ∀ l k M (w : Nat → Int64) (x : Int64), k + l = z p → l < M →
    ∃ x', (∀ j, j < 64 → (wq_bit x' j = true ↔ (wq_bit x j = true ∨ ∃ k' i', k ≤ k' ∧ k' < z p ∧ i' < wq_rc (t p k') (c p k') ∧ wq_tg a n (t p k') (values (8 * p + k')) (fun i => items (20 * (8 * p + k') + i)) i' = j))) ∧
      xf_rf_findWays_24 items lines numbers parts sorts values k2 N M (vp_updL w p x) (Int32.ofNat p) (Int32.ofNat (8 * p + k)) = k2 (vp_updL w p x') (Int32.ofNat (p + 1)) := by
  have hn := hV.1.1
  obtain ⟨hz0, _, hz⟩ := hV.2.2.2.2.1 p hp
  intro l
  induction l with
  | zero =>
    intro k M w x hk hM
    obtain ⟨M', rfl⟩ : ∃ M', M = M' + 1 := ⟨M - 1, by omega⟩
    refine ⟨x, fun j _ => ⟨fun h => Or.inl h, fun h => ?_⟩, ?_⟩
    · rcases h with h | ⟨k', i', h1, h2, _⟩
      · exact h
      · exact absurd h2 (by omega)
    · simp (disch := omega) only [xf_rf_findWays_24_s, wq_ltT, wq_ltF, wq_inT, wq_clamp, wq_eqF, wq_eqm, wq_meq, wq_add, wq_mul, wq_subT, eq_self, Bool.false_eq_true, ↓reduceIte, Option.bind_some, Sum.elim_inl, Sum.elim_inr, ↓wq_f0b, ↓wq_f1b, ↓wq_f2b, ↓wq_r0b, ↓wq_r1b, ↓Option.bind_some, hz0]
  | succ l ih =>
    intro k M w x hk hM
    obtain ⟨M', rfl⟩ : ∃ M', M = M' + 1 := ⟨M - 1, by omega⟩
    have hr : wq_rc (t p k) (c p k) ≤ 20 := by
      have := (hV.2.2.2.2.2 p k hp (by omega)).2.2.1
      unfold wq_rc
      split
      · omega
      · split <;> omega
    obtain ⟨x1, a1, a2⟩ := wq_ways41 hV hl hN hp (k := k) (by omega) k2 (xf_rf_findWays_24 items lines numbers parts sorts values k2 N M') (wq_rc (t p k) (c p k)) 0 N w x (by omega) (by omega)
    obtain ⟨x2, b1, b2⟩ := ih (k + 1) M' w x1 (by omega) (by omega)
    refine ⟨x2, fun j hj => ?_, ?_⟩
    · rw [b1 j hj, a1 j hj]
      constructor
      · rintro ((h | ⟨i', h1, h2, h3⟩) | ⟨k', i', h1, h2, h3, h4⟩)
        · exact Or.inl h
        · exact Or.inr ⟨k, i', Nat.le_refl k, by omega, h2, h3⟩
        · exact Or.inr ⟨k', i', by omega, h2, h3, h4⟩
      · rintro (h | ⟨k', i', h1, h2, h3, h4⟩)
        · exact Or.inl (Or.inl h)
        · by_cases e : k' = k
          · subst e
            exact Or.inl (Or.inr ⟨i', by omega, h3, h4⟩)
          · exact Or.inr ⟨k', i', by omega, h2, h3, h4⟩
    · rw [← b2, ← Nat.add_assoc, ← a2]
      simp (disch := omega) only [xf_rf_findWays_24_s, wq_ltT, wq_ltF, wq_inT, wq_clamp, wq_eqF, wq_eqm, wq_meq, wq_add, wq_mul, wq_subT, eq_self, Bool.false_eq_true, ↓reduceIte, Option.bind_some, Sum.elim_inl, Sum.elim_inr, ↓wq_f0b, ↓wq_f1b, ↓wq_f2b, ↓wq_r0b, ↓wq_r1b, ↓Option.bind_some, hz0]
theorem wq_findWays (hV : wi_V n a z m t c rl numbers letters names parts sorts values items) (hl : lines 0 = Int32.ofNat n) {N : Nat} (hN : 41 ≤ N) (ways : Nat → Int64) :
    ∃ ways', xf_rf_findWays items lines numbers parts sorts values N ways = some ((), ways') ∧ ∀ p, p < n → ∀ j, j < 64 → (wq_bit (ways' p) j = true ↔ (j < n ∧ wi_ref a z t c values items p j)) := by
  have hn := hV.1.1
  rw [xf_rf_findWays_s]
  have bit : ∀ p, p < n → ∀ x : Int64, (∀ j, j < 64 → (wq_bit x j = true ↔ (wq_bit 0 j = true ∨ ∃ k' i', 0 ≤ k' ∧ k' < z p ∧ i' < wq_rc (t p k') (c p k') ∧ wq_tg a n (t p k') (values (8 * p + k')) (fun i => items (20 * (8 * p + k') + i)) i' = j))) → ∀ j, j < 64 → (wq_bit x j = true ↔ (j < n ∧ wi_ref a z t c values items p j)) := by
    intro p hp x h j hj
    rw [h j hj, wq_bit0]
    constructor
    · rintro (h | ⟨k', i', _, h2, h3, h4⟩)
      · exact absurd h (by decide)
      · have g := (wq_tg_lt hV hp h2 h3).1
        rw [h4] at g
        exact ⟨g, (wq_ref_iff hV hp g).mpr ⟨k', i', h2, h3, h4⟩⟩
    · rintro ⟨h1, h2⟩
      obtain ⟨k', i', g1, g2, g3⟩ := (wq_ref_iff hV hp h1).mp h2
      exact Or.inr ⟨k', i', by omega, g1, g2, g3⟩
  suffices H : ∀ l p M (w : Nat → Int64), p + l = n → l < M → (∀ q, q < p → ∀ j, j < 64 → (wq_bit (w q) j = true ↔ (j < n ∧ wi_ref a z t c values items q j))) → ∃ ways', xf_rf_findWays_2 items lines numbers parts sorts values N M w (Int32.ofNat p) = some ((), ways') ∧ ∀ p, p < n → ∀ j, j < 64 → (wq_bit (ways' p) j = true ↔ (j < n ∧ wi_ref a z t c values items p j)) from H n 0 N ways (by omega) (by omega) (fun q hq => absurd hq (by omega))
  intro l
  induction l with
  | zero =>
    intro p M w hp hM hw
    obtain ⟨M', rfl⟩ : ∃ M', M = M' + 1 := ⟨M - 1, by omega⟩
    refine ⟨w, ?_, fun q hq => hw q (by omega)⟩
    simp (disch := omega) only [xf_rf_findWays_2_s, wq_ltT, wq_ltF, wq_inT, wq_clamp, wq_eqF, wq_eqm, wq_meq, wq_add, wq_mul, wq_subT, eq_self, Bool.false_eq_true, ↓reduceIte, Option.bind_some, Sum.elim_inl, Sum.elim_inr, ↓wq_f0b, ↓wq_f1b, ↓wq_f2b, ↓wq_r0b, ↓wq_r1b, ↓Option.bind_some, hl]
  | succ l ih =>
    intro p M w hp hM hw
    obtain ⟨M', rfl⟩ : ∃ M', M = M' + 1 := ⟨M - 1, by omega⟩
    obtain ⟨hz0, _, hz⟩ := hV.2.2.2.2.1 p (by omega)
    obtain ⟨x, a1, a2⟩ := wq_ways24 hV hl hN (p := p) (by omega) (xf_rf_findWays_2 items lines numbers parts sorts values N M') (z p) 0 N w 0 (by omega) (by omega)
    obtain ⟨w', b1, b2⟩ := ih (p + 1) M' (vp_updL w p x) (by omega) (by omega) (fun q hq j hj => by
      by_cases e : q = p
      · subst e
        rw [wq_lupd1]
        exact bit q (by omega) x a1 j hj
      · rw [wq_lupd2 e]
        exact hw q (by omega) j hj)
    refine ⟨w', ?_, b2⟩
    rw [← b1, ← a2]
    simp (disch := omega) only [xf_rf_findWays_2_s, wq_ltT, wq_ltF, wq_inT, wq_clamp, wq_eqF, wq_eqm, wq_meq, wq_add, wq_mul, wq_subT, eq_self, Bool.false_eq_true, ↓reduceIte, Option.bind_some, Sum.elim_inl, Sum.elim_inr, ↓wq_f0b, ↓wq_f1b, ↓wq_f2b, ↓wq_r0b, ↓wq_r1b, ↓Option.bind_some, hl, Nat.add_zero]
end
