/-! LINES COPIED. -/
theorem wq_cpy0 {f g : Nat → Int32} {sp dp : Nat} : va_cpy f g sp dp 0 = g := by
  funext j
  show (if dp ≤ j ∧ j < dp + 0 then f (sp + (j - dp)) else g j) = g j
  rw [if_neg (by omega)]
theorem wq_cpyS {f : Nat → Int32} {sp dp len i : Nat} (h : sp = dp ∨ sp + len ≤ dp ∨ dp + len ≤ sp) (hi : i < len) : upd (va_cpy f f sp dp i) (dp + i) (va_cpy f f sp dp i (sp + i)) = va_cpy f f sp dp (i + 1) := by
  funext j
  show (if j = dp + i then (if dp ≤ sp + i ∧ sp + i < dp + i then f (sp + (sp + i - dp)) else f (sp + i)) else (if dp ≤ j ∧ j < dp + i then f (sp + (j - dp)) else f j)) = (if dp ≤ j ∧ j < dp + (i + 1) then f (sp + (j - dp)) else f j)
  rw [if_neg (by omega : ¬ (dp ≤ sp + i ∧ sp + i < dp + i))]
  by_cases e : j = dp + i
  · rw [if_pos e, if_pos (by omega), e, show sp + (dp + i - dp) = sp + i by omega]
  · rw [if_neg e]
    by_cases e2 : dp ≤ j ∧ j < dp + i
    · rw [if_pos e2, if_pos (by omega)]
    · rw [if_neg e2, if_neg (by omega)]
theorem wq_cpyB {f : Nat → Int32} {D m w : Nat} (h : m + w ≤ D) : va_cpy (va_cpy f f 0 D m) (va_cpy f f 0 D m) m (D + m) w = va_cpy f f 0 D (m + w) := by
  funext j
  show (if D + m ≤ j ∧ j < D + m + w then (if D ≤ m + (j - (D + m)) ∧ m + (j - (D + m)) < D + m then f (0 + (m + (j - (D + m)) - D)) else f (m + (j - (D + m)))) else (if D ≤ j ∧ j < D + m then f (0 + (j - D)) else f j)) = (if D ≤ j ∧ j < D + (m + w) then f (0 + (j - D)) else f j)
  by_cases e : D + m ≤ j ∧ j < D + m + w
  · rw [if_pos e, if_neg (by omega), if_pos (by omega), show m + (j - (D + m)) = 0 + (j - D) by omega]
  · rw [if_neg e]
    by_cases e2 : D ≤ j ∧ j < D + m
    · rw [if_pos e2, if_pos (by omega)]
    · rw [if_neg e2, if_neg (by omega)]
theorem wq_cpyE {f g : Nat → Int32} {sp dp l j : Nat} (h : ¬ (dp ≤ j ∧ j < dp + l)) : va_cpy f g sp dp l j = g j := if_neg h
theorem wq_cpyI {f g : Nat → Int32} {sp dp l j : Nat} (h : j < l) : va_cpy f g sp dp l (dp + j) = f (sp + j) := by
  show (if dp ≤ dp + j ∧ dp + j < dp + l then f (sp + (dp + j - dp)) else g (dp + j)) = f (sp + j)
  rw [if_pos (by omega), show dp + j - dp = j by omega]
theorem wq_cpyZ {α : Type} {f g : Nat → α} {l j : Nat} (h : j < l) : va_cpy f g 0 0 l j = f j := by
  show (if 0 ≤ j ∧ j < 0 + l then f (0 + (j - 0)) else g j) = f j
  rw [if_pos (by omega), show 0 + (j - 0) = j by omega]
theorem wq_copy118 {N d e : Nat} (hd : d < 120) (he : e < 120) {items letters names numbers parts sorts values : Nat → Int32} : ∀ k i M, i + k = 160 → k < M →
    xf_rf_copy_118 N M (va_cpy items items (160 * e) (160 * d) i) letters names numbers parts sorts values (Int32.ofNat d) (Int32.ofNat e) (Int32.ofNat i) = some ((), va_cpy items items (160 * e) (160 * d) 160, letters, names, numbers, parts, sorts, values) := by
  intro k
  induction k with
  | zero =>
    intro i M hi hM
    obtain ⟨M', rfl⟩ : ∃ M', M = M' + 1 := ⟨M - 1, by omega⟩
    have hi8 : i = 160 := by omega
    subst hi8
    simp (disch := omega) only [xf_rf_copy_118_s, wq_ltT, wq_ltF, wq_inT, wq_clamp, wq_eqF, wq_eqm, wq_meq, wq_add, wq_mul, wq_subT, eq_self, Bool.false_eq_true, ↓reduceIte, Option.bind_some, Sum.elim_inl, Sum.elim_inr, ↓wq_f0b, ↓wq_f1b, ↓wq_f2b, ↓wq_r0b, ↓wq_r1b, ↓Option.bind_some]
  | succ k ih =>
    intro i M hi hM
    obtain ⟨M', rfl⟩ : ∃ M', M = M' + 1 := ⟨M - 1, by omega⟩
    have c := wq_cpyS (f := items) (sp := 160 * e) (dp := 160 * d) (len := 160) (i := i) (by omega) (by omega)
    simp (disch := omega) only [xf_rf_copy_118_s, wq_ltT, wq_ltF, wq_inT, wq_clamp, wq_eqF, wq_eqm, wq_meq, wq_add, wq_mul, wq_subT, eq_self, Bool.false_eq_true, ↓reduceIte, Option.bind_some, Sum.elim_inl, Sum.elim_inr, ↓wq_f0b, ↓wq_f1b, ↓wq_f2b, ↓wq_r0b, ↓wq_r1b, ↓Option.bind_some, c, ih (i + 1) M' (by omega) (by omega)]
theorem wq_copy38 {N d e : Nat} (hN : 200 ≤ N) (hd : d < 120) (he : e < 120) {items letters names numbers parts sorts values : Nat → Int32} : ∀ k i M, i + k = 8 → k < M →
    xf_rf_copy_38 N M items letters (va_cpy names names (8 * e) (8 * d) i) numbers parts (va_cpy sorts sorts (8 * e) (8 * d) i) (va_cpy values values (8 * e) (8 * d) i) (Int32.ofNat d) (Int32.ofNat e) (Int32.ofNat i) = some ((), va_cpy items items (160 * e) (160 * d) 160, letters, va_cpy names names (8 * e) (8 * d) 8, numbers, parts, va_cpy sorts sorts (8 * e) (8 * d) 8, va_cpy values values (8 * e) (8 * d) 8) := by
  intro k
  induction k with
  | zero =>
    intro i M hi hM
    obtain ⟨M', rfl⟩ : ∃ M', M = M' + 1 := ⟨M - 1, by omega⟩
    have hi8 : i = 8 := by omega
    subst hi8
    have c := wq_copy118 (N := N) hd he (items := items) (letters := letters) (names := va_cpy names names (8 * e) (8 * d) 8) (numbers := numbers) (parts := parts) (sorts := va_cpy sorts sorts (8 * e) (8 * d) 8) (values := va_cpy values values (8 * e) (8 * d) 8) 160 0 N (by omega) (by omega)
    rw [wq_cpy0] at c
    simp (disch := omega) only [xf_rf_copy_38_s, wq_ltT, wq_ltF, wq_inT, wq_clamp, wq_eqF, wq_eqm, wq_meq, wq_add, wq_mul, wq_subT, eq_self, Bool.false_eq_true, ↓reduceIte, Option.bind_some, Sum.elim_inl, Sum.elim_inr, ↓wq_f0b, ↓wq_f1b, ↓wq_f2b, ↓wq_r0b, ↓wq_r1b, ↓Option.bind_some, c]
  | succ k ih =>
    intro i M hi hM
    obtain ⟨M', rfl⟩ : ∃ M', M = M' + 1 := ⟨M - 1, by omega⟩
    have c1 := wq_cpyS (f := names) (sp := 8 * e) (dp := 8 * d) (len := 8) (i := i) (by omega) (by omega)
    have c2 := wq_cpyS (f := sorts) (sp := 8 * e) (dp := 8 * d) (len := 8) (i := i) (by omega) (by omega)
    have c3 := wq_cpyS (f := values) (sp := 8 * e) (dp := 8 * d) (len := 8) (i := i) (by omega) (by omega)
    simp (disch := omega) only [xf_rf_copy_38_s, wq_ltT, wq_ltF, wq_inT, wq_clamp, wq_eqF, wq_eqm, wq_meq, wq_add, wq_mul, wq_subT, eq_self, Bool.false_eq_true, ↓reduceIte, Option.bind_some, Sum.elim_inl, Sum.elim_inr, ↓wq_f0b, ↓wq_f1b, ↓wq_f2b, ↓wq_r0b, ↓wq_r1b, ↓Option.bind_some, c1, c2, c3, ih (i + 1) M' (by omega) (by omega)]
theorem wq_copy {N d e : Nat} (hN : 200 ≤ N) (hd : d < 120) (he : e < 120) (items letters names numbers parts sorts values : Nat → Int32) :
    xf_rf_copy N items letters names numbers parts sorts values (Int32.ofNat d) (Int32.ofNat e) = some ((), va_cpy items items (160 * e) (160 * d) 160, upd letters d (letters e), va_cpy names names (8 * e) (8 * d) 8, upd numbers d (numbers e), upd parts d (parts e), va_cpy sorts sorts (8 * e) (8 * d) 8, va_cpy values values (8 * e) (8 * d) 8) := by
  have c := wq_copy38 (N := N) hN hd he (items := items) (letters := upd letters d (letters e)) (names := names) (numbers := upd numbers d (numbers e)) (parts := upd parts d (parts e)) (sorts := sorts) (values := values) 8 0 N (by omega) (by omega)
  rw [wq_cpy0, wq_cpy0, wq_cpy0] at c
  simp (disch := omega) only [xf_rf_copy_s, wq_ltT, wq_ltF, wq_inT, wq_clamp, wq_eqF, wq_eqm, wq_meq, wq_add, wq_mul, wq_subT, eq_self, Bool.false_eq_true, ↓reduceIte, Option.bind_some, Sum.elim_inl, Sum.elim_inr, ↓wq_f0b, ↓wq_f1b, ↓wq_f2b, ↓wq_r0b, ↓wq_r1b, ↓Option.bind_some, c]
theorem wq_keep {N n : Nat} (hN : 200 ≤ N) (hn : n ≤ 40) {items letters lines names numbers parts sorts values : Nat → Int32} {th : Int32} (hl : lines 0 = Int32.ofNat n) (hl2 : lines 2 = Int32.ofNat n) : ∀ k p M, p + k = n → k < M →
    xf_rf_keep_19 N M (va_cpy items items 0 12800 (160 * p)) (va_cpy letters letters 0 80 p) lines (va_cpy names names 0 640 (8 * p)) (va_cpy numbers numbers 0 80 p) (va_cpy parts parts 0 80 p) (va_cpy sorts sorts 0 640 (8 * p)) th (va_cpy values values 0 640 (8 * p)) (Int32.ofNat p) = some (Int32.ofNat n, va_cpy items items 0 12800 (160 * n), va_cpy letters letters 0 80 n, lines, va_cpy names names 0 640 (8 * n), va_cpy numbers numbers 0 80 n, va_cpy parts parts 0 80 n, va_cpy sorts sorts 0 640 (8 * n), th, va_cpy values values 0 640 (8 * n)) := by
  intro k
  induction k with
  | zero =>
    intro p M hp hM
    obtain ⟨M', rfl⟩ : ∃ M', M = M' + 1 := ⟨M - 1, by omega⟩
    have e : p = n := by omega
    subst e
    simp (disch := omega) only [xf_rf_keep_19_s, wq_ltT, wq_ltF, wq_inT, wq_clamp, wq_eqF, wq_eqm, wq_meq, wq_add, wq_mul, wq_subT, eq_self, Bool.false_eq_true, ↓reduceIte, Option.bind_some, Sum.elim_inl, Sum.elim_inr, ↓wq_f0b, ↓wq_f1b, ↓wq_f2b, ↓wq_r0b, ↓wq_r1b, ↓Option.bind_some, hl, hl2]
  | succ k ih =>
    intro p M hp hM
    obtain ⟨M', rfl⟩ : ∃ M', M = M' + 1 := ⟨M - 1, by omega⟩
    have c := wq_copy (N := N) (d := 80 + p) (e := p) hN (by omega) (by omega) (va_cpy items items 0 12800 (160 * p)) (va_cpy letters letters 0 80 p) (va_cpy names names 0 640 (8 * p)) (va_cpy numbers numbers 0 80 p) (va_cpy parts parts 0 80 p) (va_cpy sorts sorts 0 640 (8 * p)) (va_cpy values values 0 640 (8 * p))
    have b1 : ∀ f : Nat → Int32, va_cpy (va_cpy f f 0 12800 (160 * p)) (va_cpy f f 0 12800 (160 * p)) (160 * p) (160 * (80 + p)) 160 = va_cpy f f 0 12800 (160 * (p + 1)) := by
      intro f
      have := wq_cpyB (f := f) (D := 12800) (m := 160 * p) (w := 160) (by omega)
      rw [show 160 * (80 + p) = 12800 + 160 * p by omega, show 160 * (p + 1) = 160 * p + 160 by omega]
      exact this
    have b2 : ∀ f : Nat → Int32, va_cpy (va_cpy f f 0 640 (8 * p)) (va_cpy f f 0 640 (8 * p)) (8 * p) (8 * (80 + p)) 8 = va_cpy f f 0 640 (8 * (p + 1)) := by
      intro f
      have := wq_cpyB (f := f) (D := 640) (m := 8 * p) (w := 8) (by omega)
      rw [show 8 * (80 + p) = 640 + 8 * p by omega, show 8 * (p + 1) = 8 * p + 8 by omega]
      exact this
    have b3 : ∀ f : Nat → Int32, upd (va_cpy f f 0 80 p) (80 + p) (va_cpy f f 0 80 p p) = va_cpy f f 0 80 (p + 1) := by
      intro f
      have := wq_cpyS (f := f) (sp := 0) (dp := 80) (len := 80) (i := p) (by omega) (by omega)
      rw [Nat.zero_add] at this
      exact this
    simp (disch := omega) only [xf_rf_keep_19_s, wq_ltT, wq_ltF, wq_inT, wq_clamp, wq_eqF, wq_eqm, wq_meq, wq_add, wq_mul, wq_subT, eq_self, Bool.false_eq_true, ↓reduceIte, Option.bind_some, Sum.elim_inl, Sum.elim_inr, ↓wq_f0b, ↓wq_f1b, ↓wq_f2b, ↓wq_r0b, ↓wq_r1b, ↓Option.bind_some, hl, c, b1, b2, b3, ih (p + 1) M' (by omega) (by omega)]
theorem wi_v_congr {n : Nat} {a : Nat → Nat} {t c : Nat} {v : Int32} {it it' : Nat → Int32} (he : ∀ i, i < c → it' i = it i) (h : wi_v n a t c v it) : wi_v n a t c v it' := by
  obtain ⟨h1, h2, w0, w1, w2, w3, w4, w5, w6⟩ := h
  refine ⟨h1, h2, w0, fun e => ⟨(w1 e).1, fun i hi => ?_⟩, w2, fun e => ⟨(w3 e).1, (w3 e).2.1, fun i hi => ?_⟩, fun e => ⟨(w4 e).1, (w4 e).2.1, fun i hi => ?_⟩, fun e => ⟨(w5 e).1, (w5 e).2.1, fun i hi => ?_⟩, w6⟩
  · rw [he i hi]
    exact (w1 e).2 i hi
  · rw [he i hi]
    exact (w3 e).2.2 i hi
  · rw [he i hi]
    exact (w4 e).2.2 i hi
  · rw [he i hi]
    exact (w5 e).2.2 i hi
section
variable {n R u : Nat} {o a z m : Nat → Nat} {t c s : Nat → Nat → Nat} {rows lines used rl : Int32} {number number' : Nat → Int32} {name name' : Nat → Int64} {size order sort value start items names values ritems numbers letters parts sorts size' order' sort' value' start' items' names' values' ritems' numbers' letters' parts' sorts' : Nat → Int32}
theorem wi_V_congr (h1 : ∀ p, p < n → numbers' p = numbers p) (h2 : ∀ p, p < n → letters' p = letters p) (h3 : ∀ j, j < 8 * n → names' j = names j) (h4 : ∀ p, p < n → parts' p = parts p) (h5 : ∀ j, j < 8 * n → sorts' j = sorts j) (h6 : ∀ j, j < 8 * n → values' j = values j) (h7 : ∀ j, j < 160 * n → ritems' j = ritems j)
    (hV : wi_V n a z m t c rl numbers letters names parts sorts values ritems) : wi_V n a z m t c rl numbers' letters' names' parts' sorts' values' ritems' := by
  obtain ⟨v1, v2, v3, v4, v5, v6⟩ := hV
  refine ⟨v1, fun p hp => ?_, v3, fun p hp => ?_, fun p hp => ?_, fun p k hp hk => ?_⟩
  · rw [h1 p hp]
    exact v2 p hp
  · obtain ⟨g1, g2, g3, g4⟩ := v4 p hp
    refine ⟨by rw [h2 p hp]; exact g1, g2, g3, fun i hi => ?_⟩
    rw [h3 _ (by omega)]
    exact g4 i hi
  · rw [h4 p hp]
    exact v5 p hp
  · obtain ⟨_, _, g0⟩ := v5 p hp
    obtain ⟨g1, g2⟩ := v6 p k hp hk
    refine ⟨by rw [h5 _ (by omega)]; exact g1, ?_⟩
    rw [h6 _ (by omega)]
    have g3 := g2.2.1
    exact wi_v_congr (fun i hi => h7 _ (by omega)) g2
theorem wq_pack_congr {b : Nat} : ∀ k, (∀ i, i < k → names' (b + i) = names (b + i)) → wq_pack names' b k = wq_pack names b k := by
  intro k
  induction k with
  | zero => intro _; rfl
  | succ k ih =>
    intro h
    rw [wq_pack, wq_pack, ih (fun i hi => h i (by omega)), h k (by omega)]
theorem wi_M_congr (hz : ∀ p, p < n → z p ≤ 8 ∧ m p ≤ 8) (hc : ∀ p k, p < n → k < z p → c p k ≤ 20)
    (h1 : ∀ r, r < R → number' r = number r) (h2 : ∀ r, r < R → name' r = name r) (h3 : ∀ r, r < R → size' r = size r) (h4 : ∀ p, p < n → order' p = order p) (h5 : ∀ j, j < R * 8 → sort' j = sort j) (h6 : ∀ j, j < R * 8 → value' j = value j) (h7 : ∀ j, j < R * 8 → start' j = start j) (h8 : ∀ j, j < u → items' j = items j) (h9 : ∀ j, j < 8 * n → names' j = names j) (h10 : ∀ j, j < 8 * n → values' j = values j) (h11 : ∀ j, j < 160 * n → ritems' j = ritems j)
    (hM : wi_M n R u o a z m t c s rows lines used number name size order sort value start items names values ritems) : wi_M n R u o a z m t c s rows lines used number' name' size' order' sort' value' start' items' names' values' ritems' := by
  obtain ⟨m1, m2, m3, m4, m5⟩ := hM
  refine ⟨m1, fun p hp => ?_, m3, fun p k hp hk => ?_, m5⟩
  · obtain ⟨g1, g2, g3, g4, g5⟩ := m2 p hp
    obtain ⟨_, z2⟩ := hz p hp
    refine ⟨g1, by rw [h4 p hp]; exact g2, by rw [h1 _ g1]; exact g3, by rw [h3 _ g1]; exact g4, ?_⟩
    rw [h2 _ g1, g5]
    exact (wq_pack_congr (m p) (fun i hi => h9 _ (by omega))).symm
  · obtain ⟨g1, _⟩ := m2 p hp
    obtain ⟨z1, _⟩ := hz p hp
    have z3 := hc p k hp hk
    obtain ⟨f1, f2, f3⟩ := m4 p k hp hk
    refine ⟨by rw [h5 _ (by omega)]; exact f1, by rw [h6 _ (by omega), h10 _ (by omega)]; exact f2, fun hh => ?_⟩
    obtain ⟨e1, e2, e3⟩ := f3 hh
    refine ⟨by rw [h7 _ (by omega)]; exact e1, e2, fun i hi => ?_⟩
    rw [h8 _ (by omega), h11 _ (by omega)]
    exact e3 i hi
theorem wi_ref_congr (hz : ∀ p, p < n → z p ≤ 8) (hc : ∀ p k, p < n → k < z p → c p k ≤ 20) (h10 : ∀ j, j < 8 * n → values' j = values j) (h11 : ∀ j, j < 160 * n → ritems' j = ritems j) {p q : Nat} (hp : p < n) : wi_ref a z t c values ritems p q ↔ wi_ref a z t c values' ritems' p q := by
  have z1 := hz p hp
  constructor
  · rintro ⟨k, hk, ⟨g1, g2⟩ | ⟨g1, i, hi, g2⟩⟩
    · exact ⟨k, hk, Or.inl ⟨g1, by rw [h10 _ (by omega)]; exact g2⟩⟩
    · have z3 := hc p k hp hk
      exact ⟨k, hk, Or.inr ⟨g1, i, hi, by rw [h11 _ (by omega)]; exact g2⟩⟩
  · rintro ⟨k, hk, ⟨g1, g2⟩ | ⟨g1, i, hi, g2⟩⟩
    · exact ⟨k, hk, Or.inl ⟨g1, by rw [h10 _ (by omega)] at g2; exact g2⟩⟩
    · have z3 := hc p k hp hk
      exact ⟨k, hk, Or.inr ⟨g1, i, hi, by rw [h11 _ (by omega)] at g2; exact g2⟩⟩
theorem wi_al_congr1 (hz : ∀ p, p < n → z p ≤ 8 ∧ m p ≤ 8) (hc : ∀ p k, p < n → k < z p → c p k ≤ 20) (h9 : ∀ j, j < 8 * n → names' j = names j) (h10 : ∀ j, j < 8 * n → values' j = values j) (h11 : ∀ j, j < 160 * n → ritems' j = ritems j) {h : Nat → Nat} {p q : Nat} (hp : p < n) (hq : q < n) (H : wi_al n a z m t c names values ritems h p q) : wi_al n a z m t c names' values' ritems' h p q := by
  obtain ⟨z1, z2⟩ := hz p hp
  obtain ⟨z3, z4⟩ := hz q hq
  obtain ⟨g1, g2, g3, g4⟩ := H
  refine ⟨g1, fun i hi => ?_, g3, fun k hk => ?_⟩
  · rw [h9 _ (by omega), h9 _ (by omega)]
    exact g2 i hi
  · obtain ⟨f1, f2, f3, f4, f5⟩ := g4 k hk
    have z5 := hc p k hp hk
    rw [h10 (8 * p + k) (by omega), h10 (8 * q + k) (by omega)]
    refine ⟨f1, f2, f3, fun e => ⟨(f4 e).1, fun i hi => ?_⟩, fun e => ⟨(f5 e).1, fun i hi => ?_⟩⟩
    · rw [h11 _ (by omega), h11 _ (by omega)]
      exact (f4 e).2 i hi
    · rw [h11 _ (by omega), h11 _ (by omega)]
      exact (f5 e).2 i hi
theorem wi_h_congr {D : Nat → Int32} {al al' : (Nat → Nat) → Nat → Nat → Prop} {h : Nat → Nat} (he : ∀ p q, p < n → q < n → (al h p q ↔ al' h p q)) (H : wi_h n D al h) : wi_h n D al' h := by
  intro p hp
  rcases H p hp with ⟨h1, h2⟩ | ⟨h1, h2, h3, h4, h5⟩
  · refine Or.inl ⟨h1, ?_⟩
    rcases h2 with h2 | h2
    · exact Or.inl h2
    · exact Or.inr (fun q hq hd ha => h2 q hq hd ((he p q hp (by omega)).mpr ha))
  · exact Or.inr ⟨h1, h2, h3, (he p (h p) hp (by omega)).mp h4, fun q hq hd ha => h5 q hq hd ((he p q hp (by omega)).mpr ha)⟩
end
theorem wc_6 {sc : Nat × (Nat → Int32)} {N : Nat} (hN : 200 ≤ N) : wp_Ok sc wi_I (xf_law_6 sc N) := by
  apply wp_red_6
  intro A L S hI
  obtain ⟨hT, hK, ⟨n, R, u, o, a, z, m, t, c, s, hV, hM, hG, hL⟩, _⟩ := id hI
  obtain ⟨⟨n1, n2⟩, _, _, v4, v5, v6⟩ := id hV
  obtain ⟨⟨m1, m2, m3, m4, m5, m6⟩, _⟩ := id hM
  have hz : ∀ p, p < n → z p ≤ 8 ∧ m p ≤ 8 := fun p hp => ⟨(v5 p hp).2.2, (v4 p hp).2.2.1⟩
  have hc : ∀ p k, p < n → k < z p → c p k ≤ 20 := fun p k hp hk => (v6 p k hp hk).2.2.1
  have cg : ∀ l k : Nat, l ≤ k → k < 10000 → xr_cg (Int32.ofNat 0) (Int32.ofNat 0) (Int32.ofNat l) k k := by
    intro l k hl hk
    have e0 : ¬ Int32.ofNat 0 < (0 : Int32) := by decide
    refine ⟨⟨e0, e0, fun hh => (wq_ltF (Nat.zero_le l) (by omega)).mp hh⟩, ?_, ?_⟩
    · rw [wq_clamp (by omega), wq_clamp (by omega)]
      omega
    · rw [wq_clamp (by omega), wq_clamp (by omega)]
      omega
  have h1 : xf_xt_keep (A 23) (S 15 1) (L 17) (A 16) (A 19) (S 15 0) (A 18) (A 20) (A 22) (S 15 2) (A 21) (A 41) (S 33 1) (L 35) (A 34) (A 37) (S 33 0) (A 36) (A 38) (A 40) (S 33 2) (A 39) = some (Int32.ofNat n, va_cpy (A 23) (A 41) 0 0 u, Int32.ofNat n, va_cpy (L 17) (L 35) 0 0 R, va_cpy (A 16) (A 34) 0 0 R, va_cpy (A 19) (A 37) 0 0 n, Int32.ofNat R, va_cpy (A 18) (A 36) 0 0 R, va_cpy (A 20) (A 38) 0 0 (R * 8), va_cpy (A 22) (A 40) 0 0 (R * 8), Int32.ofNat u, va_cpy (A 21) (A 39) 0 0 (R * 8)) := by
    rw [m4, m5, m6, xf_xt_keep_s, xf_md_copyFrom_s, wq_mul]
    rw [if_pos (cg R 40 (by omega) (by omega)), if_pos (cg R 40 (by omega) (by omega)), if_pos (cg R 40 (by omega) (by omega)), if_pos (cg n 40 (by omega) (by omega)), if_pos (cg (R * 8) 320 (by omega) (by omega)), if_pos (cg (R * 8) 320 (by omega) (by omega)), if_pos (cg (R * 8) 320 (by omega) (by omega)), if_pos (cg u 1200 (by omega) (by omega))]
    simp (disch := omega) only [wq_ltT, wq_ltF, wq_inT, wq_clamp, wq_eqF, wq_eqm, wq_meq, wq_add, wq_mul, wq_subT, eq_self, Bool.false_eq_true, ↓reduceIte, Option.bind_some, Sum.elim_inl, Sum.elim_inr, ↓wq_f0b, ↓wq_f1b, ↓wq_f2b, ↓wq_r0b, ↓wq_r1b, ↓Option.bind_some]
  have h2 := wq_keep (N := N) (n := n) hN n1 (items := A 73) (letters := A 68) (lines := upd (A 66) 2 (Int32.ofNat n)) (names := A 69) (numbers := A 67) (parts := A 70) (sorts := A 71) (values := A 72) (th := Int32.ofNat 0) (by rw [wq_upd2 (by omega)]; exact n2) wq_upd1 n 0 N (by omega) (by omega)
  simp only [Nat.mul_zero, wq_cpy0] at h2
  have h3 : xf_rf_keep N (A 73) (A 68) (A 66) (A 69) (A 67) (A 70) (A 71) (S 57 0) (A 72) = some (Int32.ofNat n, va_cpy (A 73) (A 73) 0 12800 (160 * n), va_cpy (A 68) (A 68) 0 80 n, upd (A 66) 2 (Int32.ofNat n), va_cpy (A 69) (A 69) 0 640 (8 * n), va_cpy (A 67) (A 67) 0 80 n, va_cpy (A 70) (A 70) 0 80 n, va_cpy (A 71) (A 71) 0 640 (8 * n), Int32.ofNat 0, va_cpy (A 72) (A 72) 0 640 (8 * n)) := by
    simp (disch := omega) only [xf_rf_keep_s, wq_ltT, wq_ltF, wq_inT, wq_clamp, wq_eqF, wq_eqm, wq_meq, wq_add, wq_mul, wq_subT, eq_self, Bool.false_eq_true, ↓reduceIte, Option.bind_some, Sum.elim_inl, Sum.elim_inr, ↓wq_f0b, ↓wq_f1b, ↓wq_f2b, ↓wq_r0b, ↓wq_r1b, ↓Option.bind_some, n2, h2]
  have e80 : ∀ (f : Nat → Int32) (p : Nat), p < n → va_cpy f f 0 80 n p = f p := fun f p hp => wq_cpyE (by omega)
  have e640 : ∀ (f : Nat → Int32) (j : Nat), j < 8 * n → va_cpy f f 0 640 (8 * n) j = f j := fun f j hj => wq_cpyE (by omega)
  have e128 : ∀ (f : Nat → Int32) (j : Nat), j < 160 * n → va_cpy f f 0 12800 (160 * n) j = f j := fun f j hj => wq_cpyE (by omega)
  have k80 : ∀ (f : Nat → Int32) (p : Nat), p < n → va_cpy f f 0 80 n (80 + p) = f p := fun f p hp => by rw [wq_cpyI hp, Nat.zero_add]
  have k640 : ∀ (f : Nat → Int32) (j : Nat), j < 8 * n → va_cpy f f 0 640 (8 * n) (640 + j) = f j := fun f j hj => by rw [wq_cpyI hj, Nat.zero_add]
  have k128 : ∀ (f : Nat → Int32) (j : Nat), j < 160 * n → va_cpy f f 0 12800 (160 * n) (12800 + j) = f j := fun f j hj => by rw [wq_cpyI hj, Nat.zero_add]
  refine ⟨_, _, h1, h3, rfl, hT, hK, ⟨n, R, u, o, a, z, m, t, c, s, ?_, ?_, ?_, ?_⟩, ⟨n, R, u, o, a, z, m, t, c, s, ?_, ?_⟩⟩
  · have V1 := wi_V_congr (e80 (A 67)) (e80 (A 68)) (e640 (A 69)) (e80 (A 70)) (e640 (A 71)) (e640 (A 72)) (e128 (A 73)) hV
    exact V1
  · have M1 := wi_M_congr hz hc (fun _ _ => rfl) (fun _ _ => rfl) (fun _ _ => rfl) (fun _ _ => rfl) (fun _ _ => rfl) (fun _ _ => rfl) (fun _ _ => rfl) (fun _ _ => rfl) (e640 (A 69)) (e640 (A 72)) (e128 (A 73)) hM
    exact M1
  · have G1 := wi_G_congr (fun p q hp _ => wi_ref_congr (a := a) (t := t) (q := q) (fun p hp => (hz p hp).1) hc (e640 (A 72)) (e128 (A 73)) hp) hG
    exact G1
  · have L1 : wi_L n a o (wi_al n a z m t c (va_cpy (A 69) (A 69) 0 640 (8 * n)) (va_cpy (A 72) (A 72) 0 640 (8 * n)) (va_cpy (A 73) (A 73) 0 12800 (160 * n))) (A 45) (S 42 5) (A 47) := by
      rcases hL with hL | ⟨h, l1, l2⟩
      · exact Or.inl hL
      · refine Or.inr ⟨h, wi_h_congr (fun p q hp hq => ⟨fun H => ?_, fun H => ?_⟩) l1, l2⟩
        · exact wi_al_congr1 hz hc (e640 (A 69)) (e640 (A 72)) (e128 (A 73)) hp hq H
        · exact wi_al_congr1 hz hc (fun j hj => (e640 (A 69) j hj).symm) (fun j hj => (e640 (A 72) j hj).symm) (fun j hj => (e128 (A 73) j hj).symm) hp hq H
    exact L1
  · have V2 := wi_V_congr (k80 (A 67)) (k80 (A 68)) (k640 (A 69)) (k80 (A 70)) (k640 (A 71)) (k640 (A 72)) (k128 (A 73)) hV
    obtain ⟨⟨x1, _⟩, x2⟩ := V2
    have V3 : wi_V n a z m t c (upd (A 66) 2 (Int32.ofNat n) 2) (fun p => va_cpy (A 67) (A 67) 0 80 n (80 + p)) (fun p => va_cpy (A 68) (A 68) 0 80 n (80 + p)) (fun j => va_cpy (A 69) (A 69) 0 640 (8 * n) (640 + j)) (fun p => va_cpy (A 70) (A 70) 0 80 n (80 + p)) (fun j => va_cpy (A 71) (A 71) 0 640 (8 * n) (640 + j)) (fun j => va_cpy (A 72) (A 72) 0 640 (8 * n) (640 + j)) (fun j => va_cpy (A 73) (A 73) 0 12800 (160 * n) (12800 + j)) := ⟨⟨x1, wq_upd1⟩, x2⟩
    exact V3
  · have M2 := wi_M_congr hz hc (number' := va_cpy (A 16) (A 34) 0 0 R) (name' := va_cpy (L 17) (L 35) 0 0 R) (size' := va_cpy (A 18) (A 36) 0 0 R) (order' := va_cpy (A 19) (A 37) 0 0 n) (sort' := va_cpy (A 20) (A 38) 0 0 (R * 8)) (value' := va_cpy (A 21) (A 39) 0 0 (R * 8)) (start' := va_cpy (A 22) (A 40) 0 0 (R * 8)) (items' := va_cpy (A 23) (A 41) 0 0 u) (fun _ h => wq_cpyZ h) (fun _ h => wq_cpyZ h) (fun _ h => wq_cpyZ h) (fun _ h => wq_cpyZ h) (fun _ h => wq_cpyZ h) (fun _ h => wq_cpyZ h) (fun _ h => wq_cpyZ h) (fun _ h => wq_cpyZ h) (k640 (A 69)) (k640 (A 72)) (k128 (A 73)) hM
    rw [m4, m5, m6] at M2
    exact M2
