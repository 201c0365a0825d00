/-! THE CLASS'S COMPARISON OF TWO LINES. -/
/-- the same argument, but for what leads -/
def wq_sa (t t' c : Nat) (v v' : Int32) (it it' : Nat → Int32) (lam : Int32 → Int32) : Prop :=
  t = t' ∧ (t = 2 → lam v = lam v') ∧ (t ≠ 2 → v = v' ∧ (t = 4 → ∀ i, i < c → lam (it i) = lam (it' i)) ∧ ((t = 1 ∨ t = 3 ∨ t = 5) → ∀ i, i < c → it i = it' i))
section
variable {n R u : Nat} {o a z m : Nat → Nat} {t c s : Nat → Nat → Nat} {rows lines used rl : Int32} {number : Nat → Int32} {name : Nat → Int64} {size order sort value start items names values ritems numbers letters parts sorts : Nat → Int32}
variable {n' R' u' : Nat} {o' a' z' m' : Nat → Nat} {t' c' s' : Nat → Nat → Nat} {rows' lines' used' rl' : Int32} {number' : Nat → Int32} {name' : Nat → Int64} {size' order' sort' value' start' items' names' values' ritems' numbers' letters' parts' sorts' : Nat → Int32}
theorem wq_sa95 (hM : wi_M n R u o a z m t c s rows lines used number name size order sort value start items names values ritems) (hV : wi_V n a z m t c rl numbers letters names parts sorts values ritems)
    (hM' : wi_M n' R' u' o' a' z' m' t' c' s' rows' lines' used' number' name' size' order' sort' value' start' items' names' values' ritems') (hV' : wi_V n' a' z' m' t' c' rl' numbers' letters' names' parts' sorts' values' ritems')
    {to : Nat → Int32} {nn N : Nat} {p q k : Nat} (hp : p < n) (hk : k < z p) (hq : q < n') (hk' : k < z' q) (hc : c p k = c' q k) {f : Nat} {lam : Int32 → Int32} (hf : f = 0 ∨ (f = 1 ∧ ∀ i, i < c p k → xf_le_of to nn (ritems (20 * (8 * p + k) + i)) = some (lam (ritems (20 * (8 * p + k) + i))) ∧ xf_le_of to nn (ritems' (20 * (8 * q + k) + i)) = some (lam (ritems' (20 * (8 * q + k) + i))))) :
    ∀ l i M, i + l = c p k → l < M →
    ((∀ j, i ≤ j → j < c p k → (f = 0 → ritems (20 * (8 * p + k) + j) = ritems' (20 * (8 * q + k) + j)) ∧ (f = 1 → lam (ritems (20 * (8 * p + k) + j)) = lam (ritems' (20 * (8 * q + k) + j)))) ∧ xf_md_sameArgument_95 items' sort' start' used' value' to items sort start used value nn N M (Int32.ofNat (o p * 8 + k)) (Int32.ofNat (o' q * 8 + k)) (Int32.ofNat f) (Int32.ofNat i) = some (Int32.ofNat 1)) ∨
    (¬ (∀ j, i ≤ j → j < c p k → (f = 0 → ritems (20 * (8 * p + k) + j) = ritems' (20 * (8 * q + k) + j)) ∧ (f = 1 → lam (ritems (20 * (8 * p + k) + j)) = lam (ritems' (20 * (8 * q + k) + j)))) ∧ xf_md_sameArgument_95 items' sort' start' used' value' to items sort start used value nn N M (Int32.ofNat (o p * 8 + k)) (Int32.ofNat (o' q * 8 + k)) (Int32.ofNat f) (Int32.ofNat i) = some (Int32.ofNat 0)) := by
  have e1 := wq_itemsOf hM hV hp hk
  have c20 := (hV.2.2.2.2.2 p k hp hk).2.2.1
  intro l
  induction l with
  | zero =>
    intro i M hi hM2
    obtain ⟨M', rfl⟩ : ∃ M', M = M' + 1 := ⟨M - 1, by omega⟩
    refine Or.inl ⟨fun j h1 h2 => absurd h2 (by omega), ?_⟩
    simp (disch := omega) only [xf_md_sameArgument_95_s, wq_ltT, wq_ltF, wq_inT, wq_clamp, wq_eqF, wq_eqm, wq_meq, wq_add, wq_mul, wq_subT, eq_self, Bool.false_eq_true, ↓reduceIte, Option.bind_some, Sum.elim_inl, Sum.elim_inr, ↓wq_f0b, ↓wq_f1b, ↓wq_f2b, ↓wq_r0b, ↓wq_r1b, ↓Option.bind_some, e1]
  | succ l ih =>
    intro i M hi hM2
    obtain ⟨M', rfl⟩ : ∃ M', M = M' + 1 := ⟨M - 1, by omega⟩
    have e2 := wq_itemAt hM hV hp hk (i := i) (by omega)
    have e3 := wq_itemAt hM' hV' hq hk' (i := i) (by omega)
    have key := ih (i + 1) M' (by omega) (by omega)
    rcases hf with hf | ⟨hf, hlam⟩
    · subst hf
      by_cases hx : ritems (20 * (8 * p + k) + i) = ritems' (20 * (8 * q + k) + i)
      · have e4 : xf_md_sameArgument_95 items' sort' start' used' value' to items sort start used value nn N (M' + 1) (Int32.ofNat (o p * 8 + k)) (Int32.ofNat (o' q * 8 + k)) (Int32.ofNat 0) (Int32.ofNat i) = xf_md_sameArgument_95 items' sort' start' used' value' to items sort start used value nn N M' (Int32.ofNat (o p * 8 + k)) (Int32.ofNat (o' q * 8 + k)) (Int32.ofNat 0) (Int32.ofNat (i + 1)) := by
          rw [xf_md_sameArgument_95_s]
          simp (disch := omega) only [xf_md_sameArgument_157_s, wq_ltT, wq_ltF, wq_inT, wq_clamp, wq_eqF, wq_eqm, wq_meq, wq_add, wq_mul, wq_subT, eq_self, Bool.false_eq_true, ↓reduceIte, Option.bind_some, Sum.elim_inl, Sum.elim_inr, ↓wq_f0b, ↓wq_f1b, ↓wq_f2b, ↓wq_r0b, ↓wq_r1b, ↓Option.bind_some, e1, e2, e3, hx]
        rw [e4]
        rcases key with ⟨k1, k2⟩ | ⟨k1, k2⟩
        · refine Or.inl ⟨fun j h1 h2 => ?_, k2⟩
          by_cases e : j = i
          · subst e
            exact ⟨fun _ => hx, fun h => absurd h (by omega)⟩
          · exact k1 j (by omega) h2
        · exact Or.inr ⟨fun h => k1 (fun j h1 h2 => h j (by omega) h2), k2⟩
      · refine Or.inr ⟨fun h => hx ((h i (Nat.le_refl i) (by omega)).1 rfl), ?_⟩
        rw [xf_md_sameArgument_95_s]
        simp (disch := omega) only [xf_md_sameArgument_155_s, wq_ltT, wq_ltF, wq_inT, wq_clamp, wq_eqF, wq_eqm, wq_meq, wq_add, wq_mul, wq_subT, eq_self, Bool.false_eq_true, ↓reduceIte, Option.bind_some, Sum.elim_inl, Sum.elim_inr, ↓wq_f0b, ↓wq_f1b, ↓wq_f2b, ↓wq_r0b, ↓wq_r1b, ↓Option.bind_some, e1, e2, e3, hx]
    · subst hf
      obtain ⟨l1, l2⟩ := hlam i (by omega)
      by_cases hx : lam (ritems (20 * (8 * p + k) + i)) = lam (ritems' (20 * (8 * q + k) + i))
      · have e4 : xf_md_sameArgument_95 items' sort' start' used' value' to items sort start used value nn N (M' + 1) (Int32.ofNat (o p * 8 + k)) (Int32.ofNat (o' q * 8 + k)) (Int32.ofNat 1) (Int32.ofNat i) = xf_md_sameArgument_95 items' sort' start' used' value' to items sort start used value nn N M' (Int32.ofNat (o p * 8 + k)) (Int32.ofNat (o' q * 8 + k)) (Int32.ofNat 1) (Int32.ofNat (i + 1)) := by
          rw [xf_md_sameArgument_95_s]
          simp (disch := omega) only [xf_md_sameArgument_157_s, wq_ltT, wq_ltF, wq_inT, wq_clamp, wq_eqF, wq_eqm, wq_meq, wq_add, wq_mul, wq_subT, eq_self, Bool.false_eq_true, ↓reduceIte, Option.bind_some, Sum.elim_inl, Sum.elim_inr, ↓wq_f0b, ↓wq_f1b, ↓wq_f2b, ↓wq_r0b, ↓wq_r1b, ↓Option.bind_some, e1, e2, e3, l1, l2, hx]
        rw [e4]
        rcases key with ⟨k1, k2⟩ | ⟨k1, k2⟩
        · refine Or.inl ⟨fun j h1 h2 => ?_, k2⟩
          by_cases e : j = i
          · subst e
            exact ⟨fun h => absurd h (by omega), fun _ => hx⟩
          · exact k1 j (by omega) h2
        · exact Or.inr ⟨fun h => k1 (fun j h1 h2 => h j (by omega) h2), k2⟩
      · refine Or.inr ⟨fun h => hx ((h i (Nat.le_refl i) (by omega)).2 rfl), ?_⟩
        rw [xf_md_sameArgument_95_s]
        simp (disch := omega) only [xf_md_sameArgument_155_s, wq_ltT, wq_ltF, wq_inT, wq_clamp, wq_eqF, wq_eqm, wq_meq, wq_add, wq_mul, wq_subT, eq_self, Bool.false_eq_true, ↓reduceIte, Option.bind_some, Sum.elim_inl, Sum.elim_inr, ↓wq_f0b, ↓wq_f1b, ↓wq_f2b, ↓wq_r0b, ↓wq_r1b, ↓Option.bind_some, e1, e2, e3, l1, l2, hx]
theorem wq_sameArg (hM : wi_M n R u o a z m t c s rows lines used number name size order sort value start items names values ritems) (hV : wi_V n a z m t c rl numbers letters names parts sorts values ritems)
    (hM' : wi_M n' R' u' o' a' z' m' t' c' s' rows' lines' used' number' name' size' order' sort' value' start' items' names' values' ritems') (hV' : wi_V n' a' z' m' t' c' rl' numbers' letters' names' parts' sorts' values' ritems')
    {to : Nat → Int32} {nn N : Nat} (hN : 41 ≤ N) {p q k : Nat} (hp : p < n) (hk : k < z p) (hq : q < n') (hk' : k < z' q) {lam : Int32 → Int32}
    (hl : ∀ r, r < n → xf_le_of to nn (Int32.ofNat (a r)) = some (lam (Int32.ofNat (a r)))) (hl' : ∀ r, r < n' → xf_le_of to nn (Int32.ofNat (a' r)) = some (lam (Int32.ofNat (a' r)))) :
    (wq_sa (t p k) (t' q k) (c p k) (values (8 * p + k)) (values' (8 * q + k)) (fun i => ritems (20 * (8 * p + k) + i)) (fun i => ritems' (20 * (8 * q + k) + i)) lam ∧ xf_md_sameArgument items' sort' start' used' value' to items sort start used value nn N (Int32.ofNat (o p * 8 + k)) (Int32.ofNat (o' q * 8 + k)) = some (Int32.ofNat 1)) ∨
    (¬ wq_sa (t p k) (t' q k) (c p k) (values (8 * p + k)) (values' (8 * q + k)) (fun i => ritems (20 * (8 * p + k) + i)) (fun i => ritems' (20 * (8 * q + k) + i)) lam ∧ xf_md_sameArgument items' sort' start' used' value' to items sort start used value nn N (Int32.ofNat (o p * 8 + k)) (Int32.ofNat (o' q * 8 + k)) = some (Int32.ofNat 0)) := by
  have ef0 : (fits .boolean (.int (Int32.ofNat 0)) = true) = True := by decide
  have ef1 : (fits .boolean (.int (Int32.ofNat 1)) = true) = True := by decide
  obtain ⟨⟨g1, g2, g3, _⟩, g4, _, g5, _⟩ := id hM
  obtain ⟨⟨g1', g2', g3', _⟩, g4', _, g5', _⟩ := id hM'
  obtain ⟨_, _, _, _, g6, g7⟩ := id hV
  obtain ⟨_, _, _, _, g6', g7'⟩ := id hV'
  obtain ⟨f1, _⟩ := g4 p hp
  obtain ⟨f1', _⟩ := g4' q hq
  obtain ⟨f2, f3, _⟩ := g5 p k hp hk
  obtain ⟨f2', f3', _⟩ := g5' q k hq hk'
  obtain ⟨_, _, f5⟩ := g6 p hp
  obtain ⟨_, _, f5'⟩ := g6' q hq
  obtain ⟨_, w, w', w0, w1, w2, w3, w4, w5, w6⟩ := g7 p k hp hk
  obtain ⟨_, x, x', x0, x1, x2, x3, x4, x5, x6⟩ := g7' q k hq hk'
  unfold wq_sa
  by_cases ht : t p k = t' q k
  · by_cases h2 : t p k = 2
    · obtain ⟨_, r, r1, r2⟩ := w2 h2
      obtain ⟨_, r', r1', r2'⟩ := x2 (by omega)
      have l1 := hl r r1
      have l2 := hl' r' r1'
      rw [← r2] at l1
      rw [← r2'] at l2
      by_cases hx : lam (values (8 * p + k)) = lam (values' (8 * q + k))
      · refine Or.inl ⟨⟨ht, fun _ => hx, fun h => absurd h2 h⟩, ?_⟩
        simp (disch := omega) only [xf_md_sameArgument_s, xf_md_sameArgument_57_s, wq_ltT, wq_ltF, wq_inT, wq_clamp, wq_eqF, wq_eqm, wq_meq, wq_add, wq_mul, wq_subT, eq_self, Bool.false_eq_true, ↓reduceIte, Option.bind_some, Sum.elim_inl, Sum.elim_inr, ↓wq_f0b, ↓wq_f1b, ↓wq_f2b, ↓wq_r0b, ↓wq_r1b, ↓Option.bind_some, f2, f2', ← ht, h2, f3, f3', l1, l2, hx, ef1]
      · refine Or.inr ⟨fun h => hx (h.2.1 h2), ?_⟩
        simp (disch := omega) only [xf_md_sameArgument_s, xf_md_sameArgument_57_s, wq_ltT, wq_ltF, wq_inT, wq_clamp, wq_eqF, wq_eqm, wq_meq, wq_add, wq_mul, wq_subT, eq_self, Bool.false_eq_true, ↓reduceIte, Option.bind_some, Sum.elim_inl, Sum.elim_inr, ↓wq_f0b, ↓wq_f1b, ↓wq_f2b, ↓wq_r0b, ↓wq_r1b, ↓Option.bind_some, f2, f2', ← ht, h2, f3, f3', l1, l2, hx, ef0]
    · by_cases hv : values (8 * p + k) = values' (8 * q + k)
      · have hc : c p k = c' q k := by
          rcases wq_isItems hV hp hk with ⟨y1, y2⟩ | ⟨y1, y2, y3, y4, y5, y6⟩
          · rcases wq_isItems hV' hq hk' with ⟨y1', y2'⟩ | ⟨y1', y2', y3', _⟩
            · omega
            · omega
          · rcases wq_isItems hV' hq hk' with ⟨y1', y2'⟩ | ⟨y1', y2', y3', y4', y5', y6'⟩
            · omega
            · rw [y5, y5'] at hv
              exact wq_inj (by omega) (by omega) hv
        by_cases h4 : t p k = 4
        · have hlam : ∀ i, i < c p k → xf_le_of to nn (ritems (20 * (8 * p + k) + i)) = some (lam (ritems (20 * (8 * p + k) + i))) ∧ xf_le_of to nn (ritems' (20 * (8 * q + k) + i)) = some (lam (ritems' (20 * (8 * q + k) + i))) := by
            intro i hi
            obtain ⟨r, r1, r2⟩ := (w4 h4).2.2 i hi
            obtain ⟨r', r1', r2'⟩ := (x4 (by omega)).2.2 i (by omega)
            have r3 : ritems (20 * (8 * p + k) + i) = Int32.ofNat (a r) := r2
            have r3' : ritems' (20 * (8 * q + k) + i) = Int32.ofNat (a' r') := r2'
            rw [r3, r3']
            exact ⟨hl r r1, hl' r' r1'⟩
          rcases wq_sa95 hM hV hM' hV' (to := to) (nn := nn) (N := N) hp hk hq hk' hc (f := 1) (lam := lam) (Or.inr ⟨rfl, hlam⟩) (c p k) 0 N (by omega) (by omega) with ⟨k1, k2⟩ | ⟨k1, k2⟩
          · refine Or.inl ⟨⟨ht, fun h => absurd h h2, fun _ => ⟨hv, fun _ i hi => (k1 i (by omega) hi).2 rfl, fun h => by omega⟩⟩, ?_⟩
            simp (disch := omega) only [xf_md_sameArgument_s, xf_md_sameArgument_90_s, wq_ltT, wq_ltF, wq_inT, wq_clamp, wq_eqF, wq_eqm, wq_meq, wq_add, wq_mul, wq_subT, eq_self, Bool.false_eq_true, ↓reduceIte, Option.bind_some, Sum.elim_inl, Sum.elim_inr, ↓wq_f0b, ↓wq_f1b, ↓wq_f2b, ↓wq_r0b, ↓wq_r1b, ↓Option.bind_some, f2, f2', ← ht, h4, f3, f3', hv, k2]
          · refine Or.inr ⟨fun h => k1 (fun j _ h3 => ⟨fun h => absurd h (by omega), fun _ => (h.2.2 h2).2.1 h4 j h3⟩), ?_⟩
            simp (disch := omega) only [xf_md_sameArgument_s, xf_md_sameArgument_90_s, wq_ltT, wq_ltF, wq_inT, wq_clamp, wq_eqF, wq_eqm, wq_meq, wq_add, wq_mul, wq_subT, eq_self, Bool.false_eq_true, ↓reduceIte, Option.bind_some, Sum.elim_inl, Sum.elim_inr, ↓wq_f0b, ↓wq_f1b, ↓wq_f2b, ↓wq_r0b, ↓wq_r1b, ↓Option.bind_some, f2, f2', ← ht, h4, f3, f3', hv, k2]
        · rcases wq_sa95 hM hV hM' hV' (to := to) (nn := nn) (N := N) hp hk hq hk' hc (f := 0) (lam := lam) (Or.inl rfl) (c p k) 0 N (by omega) (by omega) with ⟨k1, k2⟩ | ⟨k1, k2⟩
          · refine Or.inl ⟨⟨ht, fun h => absurd h h2, fun _ => ⟨hv, fun h => absurd h h4, fun _ i hi => (k1 i (by omega) hi).1 rfl⟩⟩, ?_⟩
            simp (disch := omega) only [xf_md_sameArgument_s, xf_md_sameArgument_90_s, wq_ltT, wq_ltF, wq_inT, wq_clamp, wq_eqF, wq_eqm, wq_meq, wq_add, wq_mul, wq_subT, eq_self, Bool.false_eq_true, ↓reduceIte, Option.bind_some, Sum.elim_inl, Sum.elim_inr, ↓wq_f0b, ↓wq_f1b, ↓wq_f2b, ↓wq_r0b, ↓wq_r1b, ↓Option.bind_some, f2, f2', ← ht, h2, h4, f3, f3', hv, k2]
          · refine Or.inr ⟨fun h => k1 (fun j _ h3 => ⟨fun _ => (h.2.2 h2).2.2 ?_ j h3, fun h => absurd h (by omega)⟩), ?_⟩
            · rcases wq_isItems hV hp hk with ⟨y1, y2⟩ | ⟨y1, y2, y3, y4, y5, y6⟩
              · omega
              · omega
            · simp (disch := omega) only [xf_md_sameArgument_s, xf_md_sameArgument_90_s, wq_ltT, wq_ltF, wq_inT, wq_clamp, wq_eqF, wq_eqm, wq_meq, wq_add, wq_mul, wq_subT, eq_self, Bool.false_eq_true, ↓reduceIte, Option.bind_some, Sum.elim_inl, Sum.elim_inr, ↓wq_f0b, ↓wq_f1b, ↓wq_f2b, ↓wq_r0b, ↓wq_r1b, ↓Option.bind_some, f2, f2', ← ht, h2, h4, f3, f3', hv, k2]
      · refine Or.inr ⟨fun h => hv (h.2.2 h2).1, ?_⟩
        simp (disch := omega) only [xf_md_sameArgument_s, wq_ltT, wq_ltF, wq_inT, wq_clamp, wq_eqF, wq_eqm, wq_meq, wq_add, wq_mul, wq_subT, eq_self, Bool.false_eq_true, ↓reduceIte, Option.bind_some, Sum.elim_inl, Sum.elim_inr, ↓wq_f0b, ↓wq_f1b, ↓wq_f2b, ↓wq_r0b, ↓wq_r1b, ↓Option.bind_some, f2, f2', ← ht, h2, f3, f3', hv]
  · refine Or.inr ⟨fun h => ht h.1, ?_⟩
    simp (disch := omega) only [xf_md_sameArgument_s, wq_ltT, wq_ltF, wq_inT, wq_clamp, wq_eqF, wq_eqm, wq_meq, wq_add, wq_mul, wq_subT, eq_self, Bool.false_eq_true, ↓reduceIte, Option.bind_some, Sum.elim_inl, Sum.elim_inr, ↓wq_f0b, ↓wq_f1b, ↓wq_f2b, ↓wq_r0b, ↓wq_r1b, ↓Option.bind_some, f2, f2']
/-- the same line, but for what leads -/
def wq_sl (n n' : Nat) (z m z' m' : Nat → Nat) (t c t' : Nat → Nat → Nat) (names values ritems names' values' ritems' : Nat → Int32) (lam : Int32 → Int32) (p q : Nat) : Prop :=
  (m p = m' q ∧ ∀ i, i < m p → names (8 * p + i) = names' (8 * q + i)) ∧ z p = z' q ∧ ∀ k, k < z p → wq_sa (t p k) (t' q k) (c p k) (values (8 * p + k)) (values' (8 * q + k)) (fun i => ritems (20 * (8 * p + k) + i)) (fun i => ritems' (20 * (8 * q + k) + i)) lam
theorem wq_sameLine (hM : wi_M n R u o a z m t c s rows lines used number name size order sort value start items names values ritems) (hV : wi_V n a z m t c rl numbers letters names parts sorts values ritems)
    (hM' : wi_M n' R' u' o' a' z' m' t' c' s' rows' lines' used' number' name' size' order' sort' value' start' items' names' values' ritems') (hV' : wi_V n' a' z' m' t' c' rl' numbers' letters' names' parts' sorts' values' ritems')
    {to : Nat → Int32} {nn N : Nat} (hN : 41 ≤ N) {p q : Nat} (hp : p < n) (hq : q < n') {lam : Int32 → Int32}
    (hl : ∀ r, r < n → xf_le_of to nn (Int32.ofNat (a r)) = some (lam (Int32.ofNat (a r)))) (hl' : ∀ r, r < n' → xf_le_of to nn (Int32.ofNat (a' r)) = some (lam (Int32.ofNat (a' r)))) :
    (wq_sl n n' z m z' m' t c t' names values ritems names' values' ritems' lam p q ∧ xf_md_sameLine items' name' size' sort' start' used' value' to items name size sort start used value nn N (Int32.ofNat (o p)) (Int32.ofNat (o' q)) = some (Int32.ofNat 1)) ∨
    (¬ wq_sl n n' z m z' m' t c t' names values ritems names' values' ritems' lam p q ∧ xf_md_sameLine items' name' size' sort' start' used' value' to items name size sort start used value nn N (Int32.ofNat (o p)) (Int32.ofNat (o' q)) = some (Int32.ofNat 0)) := by
  obtain ⟨⟨g1, g2, g3, _⟩, g4, _, g5, _⟩ := id hM
  obtain ⟨⟨g1', g2', g3', _⟩, g4', _, g5', _⟩ := id hM'
  obtain ⟨_, _, _, v4, g6, g7⟩ := id hV
  obtain ⟨_, _, _, v4', g6', g7'⟩ := id hV'
  obtain ⟨f1, _, _, f4, f5⟩ := g4 p hp
  obtain ⟨f1', _, _, f4', f5'⟩ := g4' q hq
  obtain ⟨_, z1, z2⟩ := g6 p hp
  obtain ⟨_, z1', z2'⟩ := g6' q hq
  obtain ⟨_, m1, m2, m3⟩ := v4 p hp
  obtain ⟨_, m1', m2', m3'⟩ := v4' q hq
  have hpk := wq_pack_eq (f := names) (f' := names') (b := 8 * p) (b' := 8 * q) m2 m2' m3 m3'
  by_cases hnm : m p = m' q ∧ ∀ i, i < m p → names (8 * p + i) = names' (8 * q + i)
  · have e1 : wq_pack names (8 * p) (m p) = wq_pack names' (8 * q) (m' q) := hpk.mpr hnm
    by_cases hz : z p = z' q
    · have step : xf_md_sameLine items' name' size' sort' start' used' value' to items name size sort start used value nn N (Int32.ofNat (o p)) (Int32.ofNat (o' q)) = xf_md_sameLine_36 items' name' size' sort' start' used' value' to items name size sort start used value nn N N (Int32.ofNat (o p)) (Int32.ofNat (o' q)) (Int32.ofNat 0) := by
        simp (disch := omega) only [xf_md_sameLine_s, wq_ltT, wq_ltF, wq_inT, wq_clamp, wq_eqF, wq_eqm, wq_meq, wq_add, wq_mul, wq_subT, eq_self, Bool.false_eq_true, ↓reduceIte, Option.bind_some, Sum.elim_inl, Sum.elim_inr, ↓wq_f0b, ↓wq_f1b, ↓wq_f2b, ↓wq_r0b, ↓wq_r1b, ↓Option.bind_some, wq_cmp0, f5, f5', e1, f4, f4', hz]
      rw [step]
      have loop : ∀ l k M, k + l = z p → l < M → ((∀ j, k ≤ j → j < z p → wq_sa (t p j) (t' q j) (c p j) (values (8 * p + j)) (values' (8 * q + j)) (fun i => ritems (20 * (8 * p + j) + i)) (fun i => ritems' (20 * (8 * q + j) + i)) lam) ∧ xf_md_sameLine_36 items' name' size' sort' start' used' value' to items name size sort start used value nn N M (Int32.ofNat (o p)) (Int32.ofNat (o' q)) (Int32.ofNat k) = some (Int32.ofNat 1)) ∨ (¬ (∀ j, k ≤ j → j < z p → wq_sa (t p j) (t' q j) (c p j) (values (8 * p + j)) (values' (8 * q + j)) (fun i => ritems (20 * (8 * p + j) + i)) (fun i => ritems' (20 * (8 * q + j) + i)) lam) ∧ xf_md_sameLine_36 items' name' size' sort' start' used' value' to items name size sort start used value nn N M (Int32.ofNat (o p)) (Int32.ofNat (o' q)) (Int32.ofNat k) = some (Int32.ofNat 0)) := by
        intro l
        induction l with
        | zero =>
          intro k M hk hM2
          obtain ⟨M', rfl⟩ : ∃ M', M = M' + 1 := ⟨M - 1, by omega⟩
          refine Or.inl ⟨fun j h1 h2 => absurd h2 (by omega), ?_⟩
          simp (disch := omega) only [xf_md_sameLine_36_s, wq_ltT, wq_ltF, wq_inT, wq_clamp, wq_eqF, wq_eqm, wq_meq, wq_add, wq_mul, wq_subT, eq_self, Bool.false_eq_true, ↓reduceIte, Option.bind_some, Sum.elim_inl, Sum.elim_inr, ↓wq_f0b, ↓wq_f1b, ↓wq_f2b, ↓wq_r0b, ↓wq_r1b, ↓Option.bind_some, f4]
        | succ l ih =>
          intro k M hk hM2
          obtain ⟨M', rfl⟩ : ∃ M', M = M' + 1 := ⟨M - 1, by omega⟩
          have key := ih (k + 1) M' (by omega) (by omega)
          rcases wq_sameArg hM hV hM' hV' hN hp (k := k) (by omega) hq (by omega) hl hl' with ⟨a1, a2⟩ | ⟨a1, a2⟩
          · have e4 : xf_md_sameLine_36 items' name' size' sort' start' used' value' to items name size sort start used value nn N (M' + 1) (Int32.ofNat (o p)) (Int32.ofNat (o' q)) (Int32.ofNat k) = xf_md_sameLine_36 items' name' size' sort' start' used' value' to items name size sort start used value nn N M' (Int32.ofNat (o p)) (Int32.ofNat (o' q)) (Int32.ofNat (k + 1)) := by
              rw [xf_md_sameLine_36_s]
              simp (disch := omega) only [wq_ltT, wq_ltF, wq_inT, wq_clamp, wq_eqF, wq_eqm, wq_meq, wq_add, wq_mul, wq_subT, eq_self, Bool.false_eq_true, ↓reduceIte, Option.bind_some, Sum.elim_inl, Sum.elim_inr, ↓wq_f0b, ↓wq_f1b, ↓wq_f2b, ↓wq_r0b, ↓wq_r1b, ↓Option.bind_some, f4, a2]
            rw [e4]
            rcases key with ⟨k1, k2⟩ | ⟨k1, k2⟩
            · refine Or.inl ⟨fun j h1 h2 => ?_, k2⟩
              by_cases e : j = k
              · rw [e]
                exact a1
              · exact k1 j (by omega) h2
            · exact Or.inr ⟨fun h => k1 (fun j h1 h2 => h j (by omega) h2), k2⟩
          · refine Or.inr ⟨fun h => a1 (h k (Nat.le_refl k) (by omega)), ?_⟩
            rw [xf_md_sameLine_36_s]
            simp (disch := omega) only [wq_ltT, wq_ltF, wq_inT, wq_clamp, wq_eqF, wq_eqm, wq_meq, wq_add, wq_mul, wq_subT, eq_self, Bool.false_eq_true, ↓reduceIte, Option.bind_some, Sum.elim_inl, Sum.elim_inr, ↓wq_f0b, ↓wq_f1b, ↓wq_f2b, ↓wq_r0b, ↓wq_r1b, ↓Option.bind_some, f4, a2]
      rcases loop (z p) 0 N (by omega) (by omega) with ⟨k1, k2⟩ | ⟨k1, k2⟩
      · exact Or.inl ⟨⟨hnm, hz, fun k hk => k1 k (by omega) hk⟩, k2⟩
      · exact Or.inr ⟨fun h => k1 (fun j _ hj => h.2.2 j hj), k2⟩
    · refine Or.inr ⟨fun h => hz h.2.1, ?_⟩
      simp (disch := omega) only [xf_md_sameLine_s, xf_md_sameLine_31_s, wq_ltT, wq_ltF, wq_inT, wq_clamp, wq_eqF, wq_eqm, wq_meq, wq_add, wq_mul, wq_subT, eq_self, Bool.false_eq_true, ↓reduceIte, Option.bind_some, Sum.elim_inl, Sum.elim_inr, ↓wq_f0b, ↓wq_f1b, ↓wq_f2b, ↓wq_r0b, ↓wq_r1b, ↓Option.bind_some, wq_cmp0, f5, f5', e1, f4, f4']
  · have e1 : ¬ wq_pack names (8 * p) (m p) = wq_pack names' (8 * q) (m' q) := fun h => hnm (hpk.mp h)
    refine Or.inr ⟨fun h => hnm h.1, ?_⟩
    simp (disch := omega) only [xf_md_sameLine_s, xf_md_sameLine_31_s, wq_ltT, wq_ltF, wq_inT, wq_clamp, wq_eqF, wq_eqm, wq_meq, wq_add, wq_mul, wq_subT, eq_self, Bool.false_eq_true, ↓reduceIte, Option.bind_some, Sum.elim_inl, Sum.elim_inr, ↓wq_f0b, ↓wq_f1b, ↓wq_f2b, ↓wq_r0b, ↓wq_r1b, ↓Option.bind_some, wq_cmp0, f5, f5', e1]
end
