/-! JOIN: the reference's lines move together, the class's rows are led. -/
section
variable {n : Nat} {a z m : Nat → Nat} {t c : Nat → Nat → Nat} {rl : Int32} {numbers letters names parts sorts values items lines likes depths : Nat → Int32} {ways : Nat → Int64} {th : Int32} {h : Nat → Nat}
/-- the lines below k that stay have moved to the front -/
def wj_J (k : Nat) (h f : Nat → Nat) (items letters names numbers parts sorts values items' letters' names' numbers' parts' sorts' values' : Nat → Int32) : Prop :=
  (∀ j, j < wq_rk h k → numbers' j = numbers (f j) ∧ letters' j = letters (f j) ∧ parts' j = parts (f j) ∧ (∀ i, i < 8 → names' (8 * j + i) = names (8 * f j + i) ∧ sorts' (8 * j + i) = sorts (8 * f j + i) ∧ values' (8 * j + i) = values (8 * f j + i)) ∧ ∀ i, i < 160 → items' (160 * j + i) = items (160 * f j + i)) ∧
  (∀ p, k ≤ p → numbers' p = numbers p ∧ letters' p = letters p ∧ parts' p = parts p) ∧
  (∀ j, 8 * k ≤ j → names' j = names j ∧ sorts' j = sorts j ∧ values' j = values j) ∧
  (∀ j, 160 * k ≤ j → items' j = items j)
theorem wj_146 (hn : n ≤ 40) (hl : lines 0 = Int32.ofNat n) (hlk : ∀ x, x < n → likes x = Int32.ofNat (h x) ∧ h x < n) {f : Nat → Nat} (hf : ∀ p, p < n → h p = p → f (wq_rk h p) = p) {N : Nat} (hN : 200 ≤ N) :
    ∀ l k M (items' letters' names' numbers' parts' sorts' values' : Nat → Int32), k + l = n → l < M → wj_J k h f items letters names numbers parts sorts values items' letters' names' numbers' parts' sorts' values' →
    ∃ items2 letters2 names2 numbers2 parts2 sorts2 values2, wj_J n h f items letters names numbers parts sorts values items2 letters2 names2 numbers2 parts2 sorts2 values2 ∧
      xf_rf_join_146 N M depths items' letters' likes lines names' numbers' parts' sorts' th values' ways (Int32.ofNat (k - wq_rk h k)) (Int32.ofNat (wq_rk h k)) (Int32.ofNat k) = some (Int32.ofNat (n - wq_rk h n), depths, items2, letters2, likes, upd lines 0 (Int32.ofNat (wq_rk h n)), names2, numbers2, parts2, sorts2, th, values2, ways) := by
  intro l
  induction l with
  | zero =>
    intro k M items' letters' names' numbers' parts' sorts' values' hk hM hJ
    obtain ⟨M', rfl⟩ : ∃ M', M = M' + 1 := ⟨M - 1, by omega⟩
    have e : k = n := by omega
    subst e
    refine ⟨_, _, _, _, _, _, _, hJ, ?_⟩
    simp (disch := omega) only [↓xf_rf_join_146_s, wq_ltT, wq_ltF, wq_inT, wq_clamp, wq_eqF, wq_eqm, wq_meq, wq_add, wq_mul, wq_subT, eq_self, Bool.false_eq_true, ↓reduceIte, Option.bind_some, Sum.elim_inl, Sum.elim_inr, ↓wq_f0b, ↓wq_f1b, ↓wq_f2b, ↓wq_r0b, ↓wq_r1b, ↓Option.bind_some, hl]
  | succ l ih =>
    intro k M items' letters' names' numbers' parts' sorts' values' hk hM hJ
    obtain ⟨M', rfl⟩ : ∃ M', M = M' + 1 := ⟨M - 1, by omega⟩
    have hkn : k < n := by omega
    have rk1 := wq_rk_le h k
    obtain ⟨j1, j2, j3, j4⟩ := hJ
    by_cases hst : h k = k
    · have rk2 : wq_rk h (k + 1) = wq_rk h k + 1 := by
        rw [wq_rk, if_pos hst]
      have cp := wq_copy (N := N) (d := wq_rk h k) (e := k) hN (by omega) (by omega) items' letters' names' numbers' parts' sorts' values'
      have lk := (hlk k hkn).1
      rw [hst] at lk
      have fk := hf k hkn hst
      obtain ⟨items2, letters2, names2, numbers2, parts2, sorts2, values2, i1, i2⟩ := ih (k + 1) M' (va_cpy items' items' (160 * k) (160 * wq_rk h k) 160) (upd letters' (wq_rk h k) (letters' k)) (va_cpy names' names' (8 * k) (8 * wq_rk h k) 8) (upd numbers' (wq_rk h k) (numbers' k)) (upd parts' (wq_rk h k) (parts' k)) (va_cpy sorts' sorts' (8 * k) (8 * wq_rk h k) 8) (va_cpy values' values' (8 * k) (8 * wq_rk h k) 8) (by omega) (by omega) (by
        refine ⟨fun j hj => ?_, fun p hp => ?_, fun j hj => ?_, fun j hj => ?_⟩
        · rw [rk2] at hj
          by_cases e : j = wq_rk h k
          · subst e
            obtain ⟨b1, b2, b3⟩ := j2 k (Nat.le_refl k)
            rw [wq_upd1, wq_upd1, wq_upd1, fk]
            refine ⟨b1, b2, b3, fun i hi => ?_, fun i hi => ?_⟩
            · rw [wq_cpyI hi, wq_cpyI hi, wq_cpyI hi]
              exact j3 _ (by omega)
            · rw [wq_cpyI hi]
              exact j4 _ (by omega)
          · obtain ⟨b1, b2, b3, b4, b5⟩ := j1 j (by omega)
            rw [wq_upd2 e, wq_upd2 e, wq_upd2 e]
            refine ⟨b1, b2, b3, fun i hi => ?_, fun i hi => ?_⟩
            · rw [wq_cpyE (by omega), wq_cpyE (by omega), wq_cpyE (by omega)]
              exact b4 i hi
            · rw [wq_cpyE (by omega)]
              exact b5 i hi
        · rw [wq_upd2 (by omega), wq_upd2 (by omega), wq_upd2 (by omega)]
          exact j2 p (by omega)
        · rw [wq_cpyE (by omega), wq_cpyE (by omega), wq_cpyE (by omega)]
          exact j3 j (by omega)
        · rw [wq_cpyE (by omega)]
          exact j4 j (by omega))
      refine ⟨_, _, _, _, _, _, _, i1, ?_⟩
      rw [← i2, rk2, xf_rf_join_146_s]
      simp (disch := omega) only [↓xf_rf_join_181_s, wq_ltT, wq_ltF, wq_inT, wq_clamp, wq_eqF, wq_eqm, wq_meq, wq_add, wq_mul, wq_subT, eq_self, Bool.false_eq_true, ↓reduceIte, Option.bind_some, Sum.elim_inl, Sum.elim_inr, ↓wq_f0b, ↓wq_f1b, ↓wq_f2b, ↓wq_r0b, ↓wq_r1b, ↓Option.bind_some, hl, lk, ↓wq_b cp]
      rw [show k + 1 - (wq_rk h k + 1) = k - wq_rk h k by omega]
    · have rk2 : wq_rk h (k + 1) = wq_rk h k := by
        rw [wq_rk, if_neg hst, Nat.add_zero]
      obtain ⟨lk, lk2⟩ := hlk k hkn
      obtain ⟨items2, letters2, names2, numbers2, parts2, sorts2, values2, i1, i2⟩ := ih (k + 1) M' items' letters' names' numbers' parts' sorts' values' (by omega) (by omega) (by
        refine ⟨fun j hj => j1 j (by omega), fun p hp => j2 p (by omega), fun j hj => j3 j (by omega), fun j hj => j4 j (by omega)⟩)
      refine ⟨_, _, _, _, _, _, _, i1, ?_⟩
      rw [← i2, rk2, xf_rf_join_146_s]
      simp (disch := omega) only [↓xf_rf_join_181_s, wq_ltT, wq_ltF, wq_inT, wq_clamp, wq_eqF, wq_eqm, wq_meq, wq_add, wq_mul, wq_subT, eq_self, Bool.false_eq_true, ↓reduceIte, Option.bind_some, Sum.elim_inl, Sum.elim_inr, ↓wq_f0b, ↓wq_f1b, ↓wq_f2b, ↓wq_r0b, ↓wq_r1b, ↓Option.bind_some, hl, lk]
      rw [show k + 1 - wq_rk h k = k - wq_rk h k + 1 by omega]
theorem wj_11 (hV : wi_V n a z m t c rl numbers letters names parts sorts values items) (hl : lines 0 = Int32.ofNat n) (hlk : ∀ x, x < n → likes x = Int32.ofNat (h x) ∧ h x < n) {N : Nat} (hN : 60 ≤ N) :
    ∀ l p M (values' items' : Nat → Int32), p + l = n → l < M → wj_S n a z t c values items h p 0 0 values' items' →
    ∃ values2 items2, wj_S n a z t c values items h n 0 0 values2 items2 ∧
      xf_rf_join_11 N M depths items' letters likes lines names numbers parts sorts th values' ways (Int32.ofNat p) = xf_rf_join_146 N N depths items2 letters likes lines names numbers parts sorts th values2 ways (Int32.ofNat 0) (Int32.ofNat 0) (Int32.ofNat 0) := by
  have hn := hV.1.1
  intro l
  induction l with
  | zero =>
    intro p M values' items' hp hM hS
    obtain ⟨M', rfl⟩ : ∃ M', M = M' + 1 := ⟨M - 1, by omega⟩
    have e : p = n := by omega
    subst e
    refine ⟨values', items', hS, ?_⟩
    rw [xf_rf_join_11_s]
    simp (disch := omega) only [wq_ltT, wq_ltF, wq_inT, wq_clamp, wq_eqF, wq_eqm, wq_meq, wq_add, wq_mul, wq_subT, eq_self, Bool.false_eq_true, ↓reduceIte, Option.bind_some, Sum.elim_inl, Sum.elim_inr, ↓wq_f0b, ↓wq_f1b, ↓wq_f2b, ↓wq_r0b, ↓wq_r1b, ↓Option.bind_some, hl]
  | succ l ih =>
    intro p M values' items' hp hM hS
    obtain ⟨M', rfl⟩ : ∃ M', M = M' + 1 := ⟨M - 1, by omega⟩
    obtain ⟨_, _, z1⟩ := hV.2.2.2.2.1 p (by omega)
    obtain ⟨values1, items1, i1, i2⟩ := wj_26 (depths := depths) (letters := letters) (names := names) (ways := ways) (th := th) hV hl hlk (N := N) (by omega) (p := p) (by omega) (xf_rf_join_11 N M') (z p) 0 N values' items' (by omega) (by omega) hS
    obtain ⟨values2, items2, j1, j2⟩ := ih (p + 1) M' values1 items1 (by omega) (by omega) i1
    refine ⟨values2, items2, j1, ?_⟩
    rw [← j2, ← i2, xf_rf_join_11_s]
    simp (disch := omega) only [wq_ltT, wq_ltF, wq_inT, wq_clamp, wq_eqF, wq_eqm, wq_meq, wq_add, wq_mul, wq_subT, eq_self, Bool.false_eq_true, ↓reduceIte, Option.bind_some, Sum.elim_inl, Sum.elim_inr, ↓wq_f0b, ↓wq_f1b, ↓wq_f2b, ↓wq_r0b, ↓wq_r1b, ↓Option.bind_some, hl, Nat.add_zero]
end
section
variable {n R u : Nat} {o a z m : Nat → Nat} {t c s : Nat → Nat → Nat} {rows used rl : Int32} {number : Nat → Int32} {name : Nat → Int64} {size order sort value start items names values ritems numbers letters parts sorts : Nat → Int32} {h : Nat → Nat} {leads : Nat → Int32}
/-- how far the class's references are led -/
def wj_C (n : Nat) (o a z : Nat → Nat) (t c s : Nat → Nat → Nat) (values ritems : Nat → Int32) (h : Nat → Nat) (P K : Nat) (value' items' : Nat → Int32) : Prop :=
  (∀ p k, p < n → k < z p → value' (o p * 8 + k) = if h p = p ∧ (p < P ∨ (p = P ∧ k < K)) then wj_v a n h (t p k) (values (8 * p + k)) else values (8 * p + k)) ∧
  (∀ p k i, p < n → k < z p → i < c p k → items' (s p k + i) = if h p = p ∧ (p < P ∨ (p = P ∧ k < K)) then wj_i a n h (t p k) (ritems (20 * (8 * p + k) + i)) else ritems (20 * (8 * p + k) + i))
theorem wj_items (hM : wi_M n R u o a z m t c s rows (Int32.ofNat n) used number name size order sort value start items names values ritems) (hV : wi_V n a z m t c rl numbers letters names parts sorts values ritems) (hle : ∀ x, x < n → xf_le_of leads 1000 (Int32.ofNat (a x)) = some (Int32.ofNat (a (h x)))) {N : Nat} (hN : 41 ≤ N) {p k : Nat} (hp : p < n) (hk : k < z p) (h4 : t p k = 4) (value' : Nat → Int32) (hv : value' (o p * 8 + k) = values (8 * p + k)) (items' : Nat → Int32) (hit : ∀ j, j < c p k → items' (s p k + j) = ritems (20 * (8 * p + k) + j)) :
    ∃ items2, (∀ j, j < c p k → items2 (s p k + j) = wj_nv a n h (ritems (20 * (8 * p + k) + j))) ∧ (∀ x, (∀ j, j < c p k → x ≠ s p k + j) → items2 x = items' x) ∧ xf_md_leadItems leads start used value' 1000 N items' (Int32.ofNat (o p * 8 + k)) = some ((), items2) := by
  obtain ⟨⟨g1, g2, g3, _, _, g0⟩, g4, _, g5, _⟩ := hM
  obtain ⟨f1, _⟩ := g4 p hp
  obtain ⟨f2, f3, f6⟩ := g5 p k hp hk
  have hz := (hV.2.2.2.2.1 p hp).2.2
  obtain ⟨w1, w2, w3, w4, w5, w6, w7, w8, _⟩ := hV.2.2.2.2.2 p k hp hk
  have hc := (w8 h4).1
  rw [hc] at hv
  by_cases c0 : c p k = 0
  · rw [c0] at hv
    refine ⟨items', fun j hj => absurd hj (by omega), fun _ _ => rfl, ?_⟩
    obtain ⟨N', rfl⟩ : ∃ N', N = N' + 1 := ⟨N - 1, by omega⟩
    have e0 : ∀ x : Int32, x + Int32.ofNat 0 = x := fun x => Int32.add_zero x
    have e1 : ∀ x : Int32, (x < x) = False := fun x => eq_false (fun hh => by
      have := Int32.lt_iff_toInt_lt.mp hh
      omega)
    simp (disch := omega) only [↓xf_md_leadItems_s, ↓xf_md_leadItems_7_s, ↓xf_md_leadItems_54_s, wq_ltT, wq_ltF, wq_inT, wq_clamp, wq_eqF, wq_eqm, wq_meq, wq_add, wq_mul, wq_subT, eq_self, Bool.false_eq_true, ↓reduceIte, Option.bind_some, Sum.elim_inl, Sum.elim_inr, ↓wq_f0b, ↓wq_f1b, ↓wq_f2b, ↓wq_r0b, ↓wq_r1b, ↓Option.bind_some, hv, e0, e1]
  · obtain ⟨d1, d2, d3⟩ := f6 (by omega)
    have loop : ∀ l i M (items' : Nat → Int32), i + l = c p k → l < M → (∀ j, i ≤ j → j < c p k → items' (s p k + j) = ritems (20 * (8 * p + k) + j)) → ∃ items2, (∀ j, i ≤ j → j < c p k → items2 (s p k + j) = wj_nv a n h (ritems (20 * (8 * p + k) + j))) ∧ (∀ x, (∀ j, i ≤ j → j < c p k → x ≠ s p k + j) → items2 x = items' x) ∧ xf_md_leadItems_7 leads start used value' 1000 N M items' (Int32.ofNat (o p * 8 + k)) (Int32.ofNat (s p k + i)) = some ((), items2) := by
      intro l
      induction l with
      | zero =>
        intro i M items' hi hM hit
        obtain ⟨M', rfl⟩ : ∃ M', M = M' + 1 := ⟨M - 1, by omega⟩
        refine ⟨items', fun j h1 h2 => absurd h2 (by omega), fun _ _ => rfl, ?_⟩
        simp (disch := omega) only [↓xf_md_leadItems_7_s, ↓xf_md_leadItems_54_s, wq_ltT, wq_ltF, wq_inT, wq_clamp, wq_eqF, wq_eqm, wq_meq, wq_add, wq_mul, wq_subT, eq_self, Bool.false_eq_true, ↓reduceIte, Option.bind_some, Sum.elim_inl, Sum.elim_inr, ↓wq_f0b, ↓wq_f1b, ↓wq_f2b, ↓wq_r0b, ↓wq_r1b, ↓Option.bind_some, hv, d1]
      | succ l ih =>
        intro i M items' hi hM hit
        obtain ⟨M', rfl⟩ : ∃ M', M = M' + 1 := ⟨M - 1, by omega⟩
        obtain ⟨q, q1, q2⟩ := (w8 h4).2.2 i (by omega)
        have q3 : ritems (20 * (8 * p + k) + i) = Int32.ofNat (a q) := q2
        have e1 := hit i (Nat.le_refl i) (by omega)
        have e2 := hle q q1
        have e3 : Int32.ofNat (a (h q)) = wj_nv a n h (ritems (20 * (8 * p + k) + i)) := by
          unfold wj_nv wq_ix
          rw [q3, wq_ix_at hV q1]
          rfl
        rw [← q3, e3] at e2
        obtain ⟨items2, i1, i2, i3⟩ := ih (i + 1) M' (upd items' (s p k + i) (wj_nv a n h (ritems (20 * (8 * p + k) + i)))) (by omega) (by omega) (fun j h1 h2 => by
          rw [wq_upd2 (by omega)]
          exact hit j (by omega) h2)
        refine ⟨items2, fun j h1 h2 => ?_, fun x hx => ?_, ?_⟩
        · by_cases e : j = i
          · rw [e, i2 _ (fun j' h3 h4 => by omega), wq_upd1]
          · exact i1 j (by omega) h2
        · rw [i2 x (fun j h1 h2 => hx j (by omega) h2), wq_upd2 (hx i (Nat.le_refl i) (by omega))]
        · rw [← i3, xf_md_leadItems_7_s]
          simp (disch := omega) only [wq_ltT, wq_ltF, wq_inT, wq_clamp, wq_eqF, wq_eqm, wq_meq, wq_add, wq_mul, wq_subT, eq_self, Bool.false_eq_true, ↓reduceIte, Option.bind_some, Sum.elim_inl, Sum.elim_inr, ↓wq_f0b, ↓wq_f1b, ↓wq_f2b, ↓wq_r0b, ↓wq_r1b, ↓Option.bind_some, hv, d1, g0, e1, ↓wq_b e2, Nat.add_assoc]
    obtain ⟨items2, i1, i2, i3⟩ := loop (c p k) 0 N items' (by omega) (by omega) (fun j _ hj => hit j hj)
    refine ⟨items2, fun j hj => i1 j (by omega) hj, fun x hx => i2 x (fun j _ hj => hx j hj), ?_⟩
    rw [← i3]
    simp (disch := omega) only [↓xf_md_leadItems_s, wq_ltT, wq_ltF, wq_inT, wq_clamp, wq_eqF, wq_eqm, wq_meq, wq_add, wq_mul, wq_subT, eq_self, Bool.false_eq_true, ↓reduceIte, Option.bind_some, Sum.elim_inl, Sum.elim_inr, ↓wq_f0b, ↓wq_f1b, ↓wq_f2b, ↓wq_r0b, ↓wq_r1b, ↓Option.bind_some, d1, Nat.add_zero]
theorem wj_lead (hM : wi_M n R u o a z m t c s rows (Int32.ofNat n) used number name size order sort value start items names values ritems) (hV : wi_V n a z m t c rl numbers letters names parts sorts values ritems) (hle : ∀ x, x < n → xf_le_of leads 1000 (Int32.ofNat (a x)) = some (Int32.ofNat (a (h x)))) {N : Nat} (hN : 41 ≤ N) {p : Nat} (hp : p < n) (hst : h p = p) (value' items' : Nat → Int32) (hC : wj_C n o a z t c s values ritems h p 0 value' items') :
    ∃ value2 items2, wj_C n o a z t c s values ritems h (p + 1) 0 value2 items2 ∧ xf_md_lead leads size sort start used 1000 N items' value' (Int32.ofNat (o p)) = some ((), items2, value2) := by
  have hn := hV.1.1
  obtain ⟨⟨g1, g2, g3, _, _, g0⟩, g4, gi, g5, gd⟩ := id hM
  obtain ⟨f1, _, _, f4, _⟩ := g4 p hp
  have hz := (hV.2.2.2.2.1 p hp).2.2
  rw [xf_md_lead_s]
  suffices H : ∀ l k M (value' items' : Nat → Int32), k + l = z p → l < M → wj_C n o a z t c s values ritems h p k value' items' → ∃ value2 items2, wj_C n o a z t c s values ritems h (p + 1) 0 value2 items2 ∧ xf_md_lead_2 leads size sort start used 1000 N M items' value' (Int32.ofNat (o p)) (Int32.ofNat k) = some ((), items2, value2) from H (z p) 0 N value' items' (by omega) (by omega) hC
  intro l
  induction l with
  | zero =>
    intro k M value' items' hk hM' hC
    obtain ⟨M', rfl⟩ : ∃ M', M = M' + 1 := ⟨M - 1, by omega⟩
    obtain ⟨c1, c2⟩ := hC
    refine ⟨value', items', ⟨fun p' k' hp' hk' => ?_, fun p' k' i hp' hk' hi => ?_⟩, ?_⟩
    · rw [c1 p' k' hp' hk']
      by_cases e : h p' = p' ∧ (p' < p ∨ (p' = p ∧ k' < k))
      · rw [if_pos e, if_pos (by omega)]
      · rw [if_neg e, if_neg (fun hh => e (by
          refine ⟨hh.1, ?_⟩
          by_cases e2 : p' = p
          · subst e2
            exact Or.inr ⟨rfl, by omega⟩
          · exact Or.inl (by omega)))]
    · rw [c2 p' k' i hp' hk' hi]
      by_cases e : h p' = p' ∧ (p' < p ∨ (p' = p ∧ k' < k))
      · rw [if_pos e, if_pos (by omega)]
      · rw [if_neg e, if_neg (fun hh => e (by
          refine ⟨hh.1, ?_⟩
          by_cases e2 : p' = p
          · subst e2
            exact Or.inr ⟨rfl, by omega⟩
          · exact Or.inl (by omega)))]
    · simp (disch := omega) only [↓xf_md_lead_2_s, wq_ltT, wq_ltF, wq_inT, wq_clamp, wq_eqF, wq_eqm, wq_meq, wq_add, wq_mul, wq_subT, eq_self, Bool.false_eq_true, ↓reduceIte, Option.bind_some, Sum.elim_inl, Sum.elim_inr, ↓wq_f0b, ↓wq_f1b, ↓wq_f2b, ↓wq_r0b, ↓wq_r1b, ↓Option.bind_some, f4]
  | succ l ih =>
    intro k M value' items' hk hM' hC
    obtain ⟨M', rfl⟩ : ∃ M', M = M' + 1 := ⟨M - 1, by omega⟩
    have hkz : k < z p := by omega
    obtain ⟨c1, c2⟩ := id hC
    obtain ⟨f2, f3, f6⟩ := g5 p k hp hkz
    obtain ⟨w1, w2, w3, w4, w5, w6, w7, w8, _⟩ := hV.2.2.2.2.2 p k hp hkz
    have v0 : value' (o p * 8 + k) = values (8 * p + k) := by
      rw [c1 p k hp hkz, if_neg (by omega)]
    by_cases h2 : t p k = 2
    · obtain ⟨_, q, q1, q2⟩ := w6 h2
      have e2 := hle q q1
      have e3 : Int32.ofNat (a (h q)) = wj_nv a n h (values (8 * p + k)) := by
        unfold wj_nv wq_ix
        rw [q2, wq_ix_at hV q1]
        rfl
      rw [← q2, e3] at e2
      have hC2 : wj_C n o a z t c s values ritems h p (k + 1) (upd value' (o p * 8 + k) (wj_nv a n h (values (8 * p + k)))) items' := by
        refine ⟨fun p' k' hp' hk' => ?_, fun p' k' i hp' hk' hi => ?_⟩
        · have zz := (hV.2.2.2.2.1 p' hp').2.2
          by_cases e : p' = p ∧ k' = k
          · obtain ⟨rfl, rfl⟩ := e
            rw [wq_upd1, if_pos ⟨hst, by omega⟩]
            unfold wj_v
            rw [if_pos h2]
          · have ne : ¬ (o p' = o p ∧ k' = k) := fun hh => e ⟨gi p' p hp' hp hh.1, hh.2⟩
            rw [wq_upd2 (by omega), c1 p' k' hp' hk']
            by_cases e2 : h p' = p' ∧ (p' < p ∨ (p' = p ∧ k' < k))
            · rw [if_pos e2, if_pos (by omega)]
            · rw [if_neg e2, if_neg (by omega)]
        · rw [c2 p' k' i hp' hk' hi]
          by_cases e : p' = p ∧ k' = k
          · obtain ⟨rfl, rfl⟩ := e
            have hc0 := (w6 h2).1
            omega
          · by_cases e2 : h p' = p' ∧ (p' < p ∨ (p' = p ∧ k' < k))
            · rw [if_pos e2, if_pos (by omega)]
            · rw [if_neg e2, if_neg (by omega)]
      obtain ⟨value2, items2, i1, i2⟩ := ih (k + 1) M' _ _ (by omega) (by omega) hC2
      refine ⟨value2, items2, i1, ?_⟩
      rw [← i2, xf_md_lead_2_s]
      simp (disch := omega) only [↓xf_md_lead_70_s, wq_ltT, wq_ltF, wq_inT, wq_clamp, wq_eqF, wq_eqm, wq_meq, wq_add, wq_mul, wq_subT, eq_self, Bool.false_eq_true, ↓reduceIte, Option.bind_some, Sum.elim_inl, Sum.elim_inr, ↓wq_f0b, ↓wq_f1b, ↓wq_f2b, ↓wq_r0b, ↓wq_r1b, ↓Option.bind_some, f4, f2, h2, v0, ↓wq_b e2]
    · have vsame : ∀ b : Prop, ∀ _ : Decidable b, (if b then wj_v a n h (t p k) (values (8 * p + k)) else values (8 * p + k)) = values (8 * p + k) := by
        intro b _
        unfold wj_v
        rw [if_neg h2, ite_self]
      by_cases h4 : t p k = 4
      · obtain ⟨items1, i1, i2, i3⟩ := wj_items hM hV hle hN hp hkz h4 value' v0 items' (fun j hj => by
          rw [c2 p k j hp hkz hj, if_neg (by omega)])
        have hC2 : wj_C n o a z t c s values ritems h p (k + 1) value' items1 := by
          refine ⟨fun p' k' hp' hk' => ?_, fun p' k' i hp' hk' hi => ?_⟩
          · rw [c1 p' k' hp' hk']
            by_cases e : p' = p ∧ k' = k
            · obtain ⟨rfl, rfl⟩ := e
              rw [vsame, vsame]
            · by_cases e2 : h p' = p' ∧ (p' < p ∨ (p' = p ∧ k' < k))
              · rw [if_pos e2, if_pos (by omega)]
              · rw [if_neg e2, if_neg (by omega)]
          · by_cases e : p' = p ∧ k' = k
            · obtain ⟨rfl, rfl⟩ := e
              rw [i1 i hi, if_pos ⟨hst, by omega⟩]
              unfold wj_i
              rw [if_pos h4]
            · have dis : ∀ j, j < c p k → s p' k' + i ≠ s p k + j := by
                intro j hj
                have := gd p' k' p k hp' hk' hp hkz (by omega) (by omega) (by omega)
                omega
              rw [i2 _ dis, c2 p' k' i hp' hk' hi]
              by_cases e2 : h p' = p' ∧ (p' < p ∨ (p' = p ∧ k' < k))
              · rw [if_pos e2, if_pos (by omega)]
              · rw [if_neg e2, if_neg (by omega)]
        obtain ⟨value2, items2, j1, j2⟩ := ih (k + 1) M' _ _ (by omega) (by omega) hC2
        refine ⟨value2, items2, j1, ?_⟩
        rw [← j2, xf_md_lead_2_s]
        simp (disch := omega) only [↓xf_md_lead_70_s, wq_ltT, wq_ltF, wq_inT, wq_clamp, wq_eqF, wq_eqm, wq_meq, wq_add, wq_mul, wq_subT, eq_self, Bool.false_eq_true, ↓reduceIte, Option.bind_some, Sum.elim_inl, Sum.elim_inr, ↓wq_f0b, ↓wq_f1b, ↓wq_f2b, ↓wq_r0b, ↓wq_r1b, ↓Option.bind_some, f4, f2, h4, ↓wq_b i3]
      · have hC2 : wj_C n o a z t c s values ritems h p (k + 1) value' items' := by
          refine ⟨fun p' k' hp' hk' => ?_, fun p' k' i hp' hk' hi => ?_⟩
          · rw [c1 p' k' hp' hk']
            by_cases e : p' = p ∧ k' = k
            · obtain ⟨rfl, rfl⟩ := e
              rw [vsame, vsame]
            · by_cases e2 : h p' = p' ∧ (p' < p ∨ (p' = p ∧ k' < k))
              · rw [if_pos e2, if_pos (by omega)]
              · rw [if_neg e2, if_neg (by omega)]
          · rw [c2 p' k' i hp' hk' hi]
            by_cases e : p' = p ∧ k' = k
            · obtain ⟨rfl, rfl⟩ := e
              unfold wj_i
              rw [if_neg h4, ite_self, ite_self]
            · by_cases e2 : h p' = p' ∧ (p' < p ∨ (p' = p ∧ k' < k))
              · rw [if_pos e2, if_pos (by omega)]
              · rw [if_neg e2, if_neg (by omega)]
        obtain ⟨value2, items2, j1, j2⟩ := ih (k + 1) M' _ _ (by omega) (by omega) hC2
        refine ⟨value2, items2, j1, ?_⟩
        rw [← j2, xf_md_lead_2_s]
        simp (disch := omega) only [↓xf_md_lead_70_s, wq_ltT, wq_ltF, wq_inT, wq_clamp, wq_eqF, wq_eqm, wq_meq, wq_add, wq_mul, wq_subT, eq_self, Bool.false_eq_true, ↓reduceIte, Option.bind_some, Sum.elim_inl, Sum.elim_inr, ↓wq_f0b, ↓wq_f1b, ↓wq_f2b, ↓wq_r0b, ↓wq_r1b, ↓Option.bind_some, f4, f2]
/-- the rows that stay -/
theorem wj_follow (hM : wi_M n R u o a z m t c s rows (Int32.ofNat n) used number name size order sort value start items names values ritems) (hV : wi_V n a z m t c rl numbers letters names parts sorts values ritems) (hh : ∀ x, x < n → h x < n) (hle : ∀ x, x < n → xf_le_of leads 1000 (Int32.ofNat (a x)) = some (Int32.ofNat (a (h x)))) {f : Nat → Nat} (hf : ∀ p, p < n → h p = p → f (wq_rk h p) = p) {N : Nat} (hN : 41 ≤ N) :
    ∃ value2 items2 order2, wj_C n o a z t c s values ritems h n 0 value2 items2 ∧ (∀ j, j < wq_rk h n → order2 j = Int32.ofNat (o (f j))) ∧ xf_md_follow leads number size sort start used 1000 N items (Int32.ofNat n) order value = some ((), items2, Int32.ofNat (wq_rk h n), order2, value2) := by
  have hn := hV.1.1
  have hr := wm_row hM
  obtain ⟨⟨g1, g2, g3, _, _, g0⟩, g4, gi, g5, gd⟩ := id hM
  have hC0 : wj_C n o a z t c s values ritems h 0 0 value items := by
    refine ⟨fun p k hp hk => ?_, fun p k i hp hk hi => ?_⟩
    · rw [if_neg (by omega)]
      exact (g5 p k hp hk).2.1
    · rw [if_neg (by omega)]
      exact ((g5 p k hp hk).2.2 (by omega)).2.2 i hi
  rw [xf_md_follow_s]
  suffices H : ∀ l p M (value' items' order' : Nat → Int32), p + l = n → l < M → wj_C n o a z t c s values ritems h p 0 value' items' → (∀ j, j < wq_rk h p → order' j = Int32.ofNat (o (f j))) → (∀ q, p ≤ q → q < n → order' q = Int32.ofNat (o q)) → ∃ value2 items2 order2, wj_C n o a z t c s values ritems h n 0 value2 items2 ∧ (∀ j, j < wq_rk h n → order2 j = Int32.ofNat (o (f j))) ∧ xf_md_follow_4 leads number size sort start used 1000 N M items' (Int32.ofNat n) order' value' (Int32.ofNat (wq_rk h p)) (Int32.ofNat p) = some ((), items2, Int32.ofNat (wq_rk h n), order2, value2) from H n 0 N value items order (by omega) (by omega) hC0 (fun j hj => absurd hj (by rw [wq_rk]; omega)) (fun q _ hq => (hr q hq).2.1)
  intro l
  induction l with
  | zero =>
    intro p M value' items' order' hp hM' hC ho1 ho2
    obtain ⟨M', rfl⟩ : ∃ M', M = M' + 1 := ⟨M - 1, by omega⟩
    have e : p = n := by omega
    subst e
    refine ⟨value', items', order', hC, ho1, ?_⟩
    simp (disch := omega) only [↓xf_md_follow_4_s, wq_ltT, wq_ltF, wq_inT, wq_clamp, wq_eqF, wq_eqm, wq_meq, wq_add, wq_mul, wq_subT, eq_self, Bool.false_eq_true, ↓reduceIte, Option.bind_some, Sum.elim_inl, Sum.elim_inr, ↓wq_f0b, ↓wq_f1b, ↓wq_f2b, ↓wq_r0b, ↓wq_r1b, ↓Option.bind_some]
  | succ l ih =>
    intro p M value' items' order' hp hM' hC ho1 ho2
    obtain ⟨M', rfl⟩ : ∃ M', M = M' + 1 := ⟨M - 1, by omega⟩
    have hpn : p < n := by omega
    obtain ⟨r1, r2, r3⟩ := hr p hpn
    have rk1 := wq_rk_le h p
    have op := ho2 p (Nat.le_refl p) hpn
    have e1 := hle p hpn
    have hap := (hV.2.1 p hpn).2
    have hahp := (hV.2.1 (h p) (hh p hpn)).2
    by_cases hst : h p = p
    · have rk2 : wq_rk h (p + 1) = wq_rk h p + 1 := by
        rw [wq_rk, if_pos hst]
      obtain ⟨value1, items1, i1, i2⟩ := wj_lead hM hV hle hN hpn hst value' items' hC
      obtain ⟨value2, items2, order2, j1, j2, j3⟩ := ih (p + 1) M' value1 items1 (upd order' (wq_rk h p) (Int32.ofNat (o p))) (by omega) (by omega) i1 (fun j hj => by
        rw [rk2] at hj
        by_cases e : j = wq_rk h p
        · rw [e, wq_upd1, hf p hpn hst]
        · rw [wq_upd2 e]
          exact ho1 j (by omega)) (fun q h1 h2 => by
        rw [wq_upd2 (by omega)]
        exact ho2 q (by omega) h2)
      refine ⟨value2, items2, order2, j1, j2, ?_⟩
      rw [← j3, rk2, xf_md_follow_4_s]
      rw [hst] at e1
      simp (disch := omega) only [↓xf_md_follow_59_s, wq_ltT, wq_ltF, wq_inT, wq_clamp, wq_eqF, wq_eqm, wq_meq, wq_add, wq_mul, wq_subT, eq_self, Bool.false_eq_true, ↓reduceIte, Option.bind_some, Sum.elim_inl, Sum.elim_inr, ↓wq_f0b, ↓wq_f1b, ↓wq_f2b, ↓wq_r0b, ↓wq_r1b, ↓Option.bind_some, op, r3, ↓wq_b e1, ↓wq_b i2]
    · have rk2 : wq_rk h (p + 1) = wq_rk h p := by
        rw [wq_rk, if_neg hst, Nat.add_zero]
      have ne : a (h p) ≠ a p := fun e => hst (wm_inja hV (hh p hpn) hpn e)
      have hC2 : wj_C n o a z t c s values ritems h (p + 1) 0 value' items' := by
        obtain ⟨c1, c2⟩ := hC
        refine ⟨fun p' k' hp' hk' => ?_, fun p' k' i hp' hk' hi => ?_⟩
        · rw [c1 p' k' hp' hk']
          by_cases e2 : h p' = p' ∧ (p' < p ∨ (p' = p ∧ k' < 0))
          · rw [if_pos e2, if_pos (by omega)]
          · rw [if_neg e2, if_neg (fun hc => e2 ⟨hc.1, Or.inl (by
              apply Classical.byContradiction
              intro hge
              have : p' = p := by omega
              rw [this] at hc
              exact hst hc.1)⟩)]
        · rw [c2 p' k' i hp' hk' hi]
          by_cases e2 : h p' = p' ∧ (p' < p ∨ (p' = p ∧ k' < 0))
          · rw [if_pos e2, if_pos (by omega)]
          · rw [if_neg e2, if_neg (fun hc => e2 ⟨hc.1, Or.inl (by
              apply Classical.byContradiction
              intro hge
              have : p' = p := by omega
              rw [this] at hc
              exact hst hc.1)⟩)]
      obtain ⟨value2, items2, order2, j1, j2, j3⟩ := ih (p + 1) M' value' items' order' (by omega) (by omega) hC2 (fun j hj => ho1 j (by omega)) (fun q h1 h2 => ho2 q (by omega) h2)
      refine ⟨value2, items2, order2, j1, j2, ?_⟩
      rw [← j3, rk2, xf_md_follow_4_s]
      simp (disch := omega) only [↓xf_md_follow_59_s, wq_ltT, wq_ltF, wq_inT, wq_clamp, wq_eqF, wq_eqm, wq_meq, wq_add, wq_mul, wq_subT, eq_self, Bool.false_eq_true, ↓reduceIte, Option.bind_some, Sum.elim_inl, Sum.elim_inr, ↓wq_f0b, ↓wq_f1b, ↓wq_f2b, ↓wq_r0b, ↓wq_r1b, ↓Option.bind_some, op, r3, ↓wq_b e1]
end
