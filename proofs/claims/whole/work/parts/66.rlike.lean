/-! ALIKE LINES, on the reference's side. -/
def wi_ala (n : Nat) (a : Nat → Nat) (t c : Nat → Nat → Nat) (values items : Nat → Int32) (h : Nat → Nat) (p q k : Nat) : Prop :=
  t p k = t q k ∧
    ((t p k = 0 ∨ t p k = 6) → values (8 * p + k) = values (8 * q + k)) ∧
    (t p k = 2 → h (wq_ix a n (values (8 * p + k))) = h (wq_ix a n (values (8 * q + k)))) ∧
    ((t p k = 1 ∨ t p k = 3 ∨ t p k = 5) → c p k = c q k ∧ ∀ i, i < c p k → items (20 * (8 * p + k) + i) = items (20 * (8 * q + k) + i)) ∧
    (t p k = 4 → c p k = c q k ∧ ∀ i, i < c p k → h (wq_ix a n (items (20 * (8 * p + k) + i))) = h (wq_ix a n (items (20 * (8 * q + k) + i))))
section
variable {n : Nat} {a z m : Nat → Nat} {t c : Nat → Nat → Nat} {rl : Int32} {numbers letters names parts sorts values items lines lk : Nat → Int32} {g : Nat → Nat}
theorem wq_ral0 (hV : wi_V n a z m t c rl numbers letters names parts sorts values items) {N p q k : Nat} (hp : p < n) (hk : k < z p) (h4 : t p k = 4) : ∀ l i M, i + l = c p k → l < M → xf_rf_isArgumentAlike_157 items lk lines numbers sorts values N M (Int32.ofNat (8 * p + k)) (Int32.ofNat (8 * q + k)) (Int32.ofNat 0) (Int32.ofNat i) = some (Int32.ofNat 0) := by
  have ef0 : (fits .boolean (.int (Int32.ofNat 0)) = true) = True := by decide
  have hn := hV.1.1
  obtain ⟨_, _, r7⟩ := hV.2.2.2.2.1 p hp
  obtain ⟨_, w, w', w0, w1, w2, w3, w4, w5, w6⟩ := hV.2.2.2.2.2 p k hp hk
  have hc := (w4 h4).1
  intro l
  induction l with
  | zero =>
    intro i M hi hM
    obtain ⟨M', rfl⟩ : ∃ M', M = M' + 1 := ⟨M - 1, by omega⟩
    simp (disch := omega) only [xf_rf_isArgumentAlike_157_s, wq_ltT, wq_ltF, wq_inT, wq_clamp, wq_eqF, wq_eqm, wq_meq, wq_add, wq_mul, wq_subT, eq_self, Bool.false_eq_true, ↓reduceIte, Option.bind_some, Sum.elim_inl, Sum.elim_inr, ↓wq_f0b, ↓wq_f1b, ↓wq_f2b, ↓wq_r0b, ↓wq_r1b, ↓Option.bind_some, hc, ef0]
  | succ l ih =>
    intro i M hi hM
    obtain ⟨M', rfl⟩ : ∃ M', M = M' + 1 := ⟨M - 1, by omega⟩
    rw [xf_rf_isArgumentAlike_157_s]
    simp (disch := omega) only [xf_rf_isArgumentAlike_203_s, xf_rf_isArgumentAlike_204_s, wq_ltT, wq_ltF, wq_inT, wq_clamp, wq_eqF, wq_eqm, wq_meq, wq_add, wq_mul, wq_subT, eq_self, Bool.false_eq_true, ↓reduceIte, Option.bind_some, Sum.elim_inl, Sum.elim_inr, ↓wq_f0b, ↓wq_f1b, ↓wq_f2b, ↓wq_r0b, ↓wq_r1b, ↓Option.bind_some, hc, ih (i + 1) M' (by omega) (by omega)]
theorem wq_ral1 (hV : wi_V n a z m t c rl numbers letters names parts sorts values items) (hl : lines 0 = Int32.ofNat n) (hlk : ∀ x, x < n → lk x = Int32.ofNat (g x) ∧ g x < 40) {N p q k : Nat} (hN : 41 ≤ N) (hp : p < n) (hk : k < z p) (hq : q < n) (hk' : k < z q) (h4 : t p k = 4) (h4' : t q k = 4) (hcc : c p k = c q k) : ∀ l i M, i + l = c p k → l < M →
    ((∀ j, i ≤ j → j < c p k → g (wq_ix a n (items (20 * (8 * p + k) + j))) = g (wq_ix a n (items (20 * (8 * q + k) + j)))) ∧ xf_rf_isArgumentAlike_157 items lk lines numbers sorts values N M (Int32.ofNat (8 * p + k)) (Int32.ofNat (8 * q + k)) (Int32.ofNat 1) (Int32.ofNat i) = some (Int32.ofNat 1)) ∨
    (¬ (∀ j, i ≤ j → j < c p k → g (wq_ix a n (items (20 * (8 * p + k) + j))) = g (wq_ix a n (items (20 * (8 * q + k) + j)))) ∧ xf_rf_isArgumentAlike_157 items lk lines numbers sorts values N M (Int32.ofNat (8 * p + k)) (Int32.ofNat (8 * q + k)) (Int32.ofNat 1) (Int32.ofNat i) = some (Int32.ofNat 0)) := by
  have ef1 : (fits .boolean (.int (Int32.ofNat 1)) = true) = True := by decide
  have hn := hV.1.1
  obtain ⟨_, _, r7⟩ := hV.2.2.2.2.1 p hp
  obtain ⟨_, w, w', w0, w1, w2, w3, w4, w5, w6⟩ := hV.2.2.2.2.2 p k hp hk
  have hc := (w4 h4).1
  intro l
  induction l with
  | zero =>
    intro i M hi hM
    obtain ⟨M', rfl⟩ : ∃ M', M = M' + 1 := ⟨M - 1, by omega⟩
    refine Or.inl ⟨fun j h1 h2 => absurd h2 (by omega), ?_⟩
    simp (disch := omega) only [xf_rf_isArgumentAlike_157_s, wq_ltT, wq_ltF, wq_inT, wq_clamp, wq_eqF, wq_eqm, wq_meq, wq_add, wq_mul, wq_subT, eq_self, Bool.false_eq_true, ↓reduceIte, Option.bind_some, Sum.elim_inl, Sum.elim_inr, ↓wq_f0b, ↓wq_f1b, ↓wq_f2b, ↓wq_r0b, ↓wq_r1b, ↓Option.bind_some, hc, ef1]
  | succ l ih =>
    intro i M hi hM
    obtain ⟨M', rfl⟩ : ∃ M', M = M' + 1 := ⟨M - 1, by omega⟩
    have hr : i < wq_rc (t p k) (c p k) := by
      unfold wq_rc
      rw [if_neg (by omega), if_pos h4]
      omega
    have hr' : i < wq_rc (t q k) (c q k) := by
      unfold wq_rc
      rw [if_neg (by omega), if_pos h4']
      omega
    have e1 := wq_referred hV hl hN hp hk hr
    have e2 := wq_referred hV hl hN hq hk' hr'
    have l1 := (wq_tg_lt hV hp hk hr).1
    have l2 := (wq_tg_lt hV hq hk' hr').1
    have t1 : wq_tg a n (t p k) (values (8 * p + k)) (fun i => items (20 * (8 * p + k) + i)) i = wq_ix a n (items (20 * (8 * p + k) + i)) := by
      unfold wq_tg
      rw [if_neg (by omega)]
    have t2 : wq_tg a n (t q k) (values (8 * q + k)) (fun i => items (20 * (8 * q + k) + i)) i = wq_ix a n (items (20 * (8 * q + k) + i)) := by
      unfold wq_tg
      rw [if_neg (by omega)]
    rw [t1] at e1 l1
    rw [t2] at e2 l2
    obtain ⟨k1, g1⟩ := hlk _ l1
    obtain ⟨k2, g2⟩ := hlk _ l2
    have key := ih (i + 1) M' (by omega) (by omega)
    by_cases hx : g (wq_ix a n (items (20 * (8 * p + k) + i))) = g (wq_ix a n (items (20 * (8 * q + k) + i)))
    · have e4 : xf_rf_isArgumentAlike_157 items lk lines numbers sorts values N (M' + 1) (Int32.ofNat (8 * p + k)) (Int32.ofNat (8 * q + k)) (Int32.ofNat 1) (Int32.ofNat i) = xf_rf_isArgumentAlike_157 items lk lines numbers sorts values N M' (Int32.ofNat (8 * p + k)) (Int32.ofNat (8 * q + k)) (Int32.ofNat 1) (Int32.ofNat (i + 1)) := by
        rw [xf_rf_isArgumentAlike_157_s]
        simp (disch := omega) only [xf_rf_isArgumentAlike_204_s, wq_ltT, wq_ltF, wq_inT, wq_clamp, wq_eqF, wq_eqm, wq_meq, wq_add, wq_mul, wq_subT, eq_self, Bool.false_eq_true, ↓reduceIte, Option.bind_some, Sum.elim_inl, Sum.elim_inr, ↓wq_f0b, ↓wq_f1b, ↓wq_f2b, ↓wq_r0b, ↓wq_r1b, ↓Option.bind_some, hc, ↓wq_b e1, ↓wq_b e2, k1, k2, hx]
      rw [e4]
      rcases key with ⟨a1, a2⟩ | ⟨a1, a2⟩
      · refine Or.inl ⟨fun j h1 h2 => ?_, a2⟩
        by_cases e : j = i
        · rw [e]
          exact hx
        · exact a1 j (by omega) h2
      · exact Or.inr ⟨fun h => a1 (fun j h1 h2 => h j (by omega) h2), a2⟩
    · refine Or.inr ⟨fun h => hx (h i (Nat.le_refl i) (by omega)), ?_⟩
      have e5 := wq_ral0 (lk := lk) (lines := lines) (q := q) (N := N) hV hp hk h4 l (i + 1) M' (by omega) (by omega)
      rw [xf_rf_isArgumentAlike_157_s]
      simp (disch := omega) only [xf_rf_isArgumentAlike_203_s, xf_rf_isArgumentAlike_204_s, wq_ltT, wq_ltF, wq_inT, wq_clamp, wq_eqF, wq_eqm, wq_meq, wq_add, wq_mul, wq_subT, eq_self, Bool.false_eq_true, ↓reduceIte, Option.bind_some, Sum.elim_inl, Sum.elim_inr, ↓wq_f0b, ↓wq_f1b, ↓wq_f2b, ↓wq_r0b, ↓wq_r1b, ↓Option.bind_some, hc, ↓wq_b e1, ↓wq_b e2, k1, k2, hx, e5]
theorem wq_ral (hV : wi_V n a z m t c rl numbers letters names parts sorts values items) (hl : lines 0 = Int32.ofNat n) (hlk : ∀ x, x < n → lk x = Int32.ofNat (g x) ∧ g x < 40) {N p q k : Nat} (hN : 41 ≤ N) (hp : p < n) (hk : k < z p) (hq : q < n) (hk' : k < z q) :
    (wi_ala n a t c values items g p q k ∧ xf_rf_isArgumentAlike items lk lines numbers sorts values N (Int32.ofNat (8 * p + k)) (Int32.ofNat (8 * q + k)) = some (Int32.ofNat 1)) ∨ (¬ wi_ala n a t c values items g p q k ∧ xf_rf_isArgumentAlike items lk lines numbers sorts values N (Int32.ofNat (8 * p + k)) (Int32.ofNat (8 * q + k)) = some (Int32.ofNat 0)) := by
  have ef0 : (fits .boolean (.int (Int32.ofNat 0)) = true) = True := by decide
  have ef1 : (fits .boolean (.int (Int32.ofNat 1)) = true) = True := by decide
  have hn := hV.1.1
  obtain ⟨_, _, r7⟩ := hV.2.2.2.2.1 p hp
  obtain ⟨_, _, r7'⟩ := hV.2.2.2.2.1 q hq
  obtain ⟨f1, w, w', w0, w1, w2, w3, w4, w5, w6⟩ := hV.2.2.2.2.2 p k hp hk
  obtain ⟨f2, x, x', x0, x1, x2, x3, x4, x5, x6⟩ := hV.2.2.2.2.2 q k hq hk'
  unfold wi_ala
  by_cases ht : t p k = t q k
  · by_cases h06 : t p k = 0 ∨ t p k = 6
    · by_cases hv : values (8 * p + k) = values (8 * q + k)
      · refine Or.inl ⟨⟨ht, fun _ => hv, fun e => by omega, fun e => by omega, fun e => by omega⟩, ?_⟩
        rcases h06 with e | e
        · simp (disch := omega) only [↓xf_rf_isArgumentAlike_s, ↓xf_rf_isArgumentAlike_37_s, ↓xf_rf_isArgumentAlike_57_s, wq_ltT, wq_ltF, wq_inT, wq_clamp, wq_eqF, wq_eqm, wq_meq, wq_add, wq_mul, wq_subT, eq_self, Bool.false_eq_true, ↓reduceIte, Option.bind_some, Sum.elim_inl, Sum.elim_inr, ↓wq_f0b, ↓wq_f1b, ↓wq_f2b, ↓wq_r0b, ↓wq_r1b, ↓Option.bind_some, f1, f2, ← ht, e, hv, ef1]
        · simp (disch := omega) only [↓xf_rf_isArgumentAlike_s, ↓xf_rf_isArgumentAlike_37_s, ↓xf_rf_isArgumentAlike_57_s, wq_ltT, wq_ltF, wq_inT, wq_clamp, wq_eqF, wq_eqm, wq_meq, wq_add, wq_mul, wq_subT, eq_self, Bool.false_eq_true, ↓reduceIte, Option.bind_some, Sum.elim_inl, Sum.elim_inr, ↓wq_f0b, ↓wq_f1b, ↓wq_f2b, ↓wq_r0b, ↓wq_r1b, ↓Option.bind_some, f1, f2, ← ht, e, hv, ef1]
      · refine Or.inr ⟨fun h => hv (h.2.1 h06), ?_⟩
        rcases h06 with e | e
        · simp (disch := omega) only [↓xf_rf_isArgumentAlike_s, ↓xf_rf_isArgumentAlike_37_s, ↓xf_rf_isArgumentAlike_57_s, wq_ltT, wq_ltF, wq_inT, wq_clamp, wq_eqF, wq_eqm, wq_meq, wq_add, wq_mul, wq_subT, eq_self, Bool.false_eq_true, ↓reduceIte, Option.bind_some, Sum.elim_inl, Sum.elim_inr, ↓wq_f0b, ↓wq_f1b, ↓wq_f2b, ↓wq_r0b, ↓wq_r1b, ↓Option.bind_some, f1, f2, ← ht, e, hv, ef0]
        · simp (disch := omega) only [↓xf_rf_isArgumentAlike_s, ↓xf_rf_isArgumentAlike_37_s, ↓xf_rf_isArgumentAlike_57_s, wq_ltT, wq_ltF, wq_inT, wq_clamp, wq_eqF, wq_eqm, wq_meq, wq_add, wq_mul, wq_subT, eq_self, Bool.false_eq_true, ↓reduceIte, Option.bind_some, Sum.elim_inl, Sum.elim_inr, ↓wq_f0b, ↓wq_f1b, ↓wq_f2b, ↓wq_r0b, ↓wq_r1b, ↓Option.bind_some, f1, f2, ← ht, e, hv, ef0]
    · by_cases h2 : t p k = 2
      · have h2' : t q k = 2 := by omega
        have hr : 0 < wq_rc (t p k) (c p k) := by
          unfold wq_rc
          rw [if_pos h2]
          omega
        have hr' : 0 < wq_rc (t q k) (c q k) := by
          unfold wq_rc
          rw [if_pos h2']
          omega
        have e1 := wq_referred hV hl hN hp hk hr
        have e2 := wq_referred hV hl hN hq hk' hr'
        have l1 := (wq_tg_lt hV hp hk hr).1
        have l2 := (wq_tg_lt hV hq hk' hr').1
        have t1 : wq_tg a n (t p k) (values (8 * p + k)) (fun i => items (20 * (8 * p + k) + i)) 0 = wq_ix a n (values (8 * p + k)) := by
          unfold wq_tg
          rw [if_pos h2]
        have t2 : wq_tg a n (t q k) (values (8 * q + k)) (fun i => items (20 * (8 * q + k) + i)) 0 = wq_ix a n (values (8 * q + k)) := by
          unfold wq_tg
          rw [if_pos h2']
        rw [t1] at e1 l1
        rw [t2] at e2 l2
        obtain ⟨k1, g1⟩ := hlk _ l1
        obtain ⟨k2, g2⟩ := hlk _ l2
        by_cases hx : g (wq_ix a n (values (8 * p + k))) = g (wq_ix a n (values (8 * q + k)))
        · refine Or.inl ⟨⟨ht, fun e => absurd e h06, fun _ => hx, fun e => by omega, fun e => by omega⟩, ?_⟩
          simp (disch := omega) only [↓xf_rf_isArgumentAlike_s, ↓xf_rf_isArgumentAlike_98_s, wq_ltT, wq_ltF, wq_inT, wq_clamp, wq_eqF, wq_eqm, wq_meq, wq_add, wq_mul, wq_subT, eq_self, Bool.false_eq_true, ↓reduceIte, Option.bind_some, Sum.elim_inl, Sum.elim_inr, ↓wq_f0b, ↓wq_f1b, ↓wq_f2b, ↓wq_r0b, ↓wq_r1b, ↓Option.bind_some, f1, f2, ← ht, h2, ↓wq_b e1, ↓wq_b e2, k1, k2, hx, ef1]
        · refine Or.inr ⟨fun h => hx (h.2.2.1 h2), ?_⟩
          simp (disch := omega) only [↓xf_rf_isArgumentAlike_s, ↓xf_rf_isArgumentAlike_98_s, wq_ltT, wq_ltF, wq_inT, wq_clamp, wq_eqF, wq_eqm, wq_meq, wq_add, wq_mul, wq_subT, eq_self, Bool.false_eq_true, ↓reduceIte, Option.bind_some, Sum.elim_inl, Sum.elim_inr, ↓wq_f0b, ↓wq_f1b, ↓wq_f2b, ↓wq_r0b, ↓wq_r1b, ↓Option.bind_some, f1, f2, ← ht, h2, ↓wq_b e1, ↓wq_b e2, k1, k2, hx, ef0]
      · have vc : values (8 * p + k) = Int32.ofNat (c p k) := by
          rcases wq_isItems hV hp hk with ⟨y1, _⟩ | ⟨_, _, _, _, y5, _⟩
          · omega
          · exact y5
        have vc' : values (8 * q + k) = Int32.ofNat (c q k) := by
          rcases wq_isItems hV hq hk' with ⟨y1, _⟩ | ⟨_, _, _, _, y5, _⟩
          · omega
          · exact y5
        by_cases hcc : c p k = c q k
        · by_cases h4 : t p k = 4
          · rcases wq_ral1 hV hl hlk hN hp hk hq hk' h4 (by omega) hcc (c p k) 0 N (by omega) (by omega) with ⟨a1, a2⟩ | ⟨a1, a2⟩
            · refine Or.inl ⟨⟨ht, fun e => absurd e h06, fun e => absurd e h2, fun e => by omega, fun _ => ⟨hcc, fun i hi => a1 i (by omega) hi⟩⟩, ?_⟩
              simp (disch := omega) only [↓xf_rf_isArgumentAlike_s, wq_ltT, wq_ltF, wq_inT, wq_clamp, wq_eqF, wq_eqm, wq_meq, wq_add, wq_mul, wq_subT, eq_self, Bool.false_eq_true, ↓reduceIte, Option.bind_some, Sum.elim_inl, Sum.elim_inr, ↓wq_f0b, ↓wq_f1b, ↓wq_f2b, ↓wq_r0b, ↓wq_r1b, ↓Option.bind_some, f1, f2, ← ht, h4, vc, vc', ← hcc, a2]
            · refine Or.inr ⟨fun h => a1 (fun j _ hj => (h.2.2.2.2 h4).2 j hj), ?_⟩
              simp (disch := omega) only [↓xf_rf_isArgumentAlike_s, wq_ltT, wq_ltF, wq_inT, wq_clamp, wq_eqF, wq_eqm, wq_meq, wq_add, wq_mul, wq_subT, eq_self, Bool.false_eq_true, ↓reduceIte, Option.bind_some, Sum.elim_inl, Sum.elim_inr, ↓wq_f0b, ↓wq_f1b, ↓wq_f2b, ↓wq_r0b, ↓wq_r1b, ↓Option.bind_some, f1, f2, ← ht, h4, vc, vc', ← hcc, a2]
          · by_cases hall : ∀ j, j < c p k → items (20 * (8 * p + k) + j) = items (20 * (8 * q + k) + j)
            · have sm := wq_same1 (p1 := items) (p3 := items) (n1 := 19200) (n3 := 19200) (N := N) (d := 20 * (8 * p + k)) (e := 20 * (8 * q + k)) (l := c p k) (by omega) (by omega) (by omega) (by omega) (by omega) hall
              refine Or.inl ⟨⟨ht, fun e => absurd e h06, fun e => absurd e h2, fun _ => ⟨hcc, hall⟩, fun e => absurd e h4⟩, ?_⟩
              simp (disch := omega) only [↓xf_rf_isArgumentAlike_s, wq_ltT, wq_ltF, wq_inT, wq_clamp, wq_eqF, wq_eqm, wq_meq, wq_add, wq_mul, wq_subT, eq_self, Bool.false_eq_true, ↓reduceIte, Option.bind_some, Sum.elim_inl, Sum.elim_inr, ↓wq_f0b, ↓wq_f1b, ↓wq_f2b, ↓wq_r0b, ↓wq_r1b, ↓Option.bind_some, f1, f2, ← ht, h2, h4, vc, vc', ← hcc, ↓wq_b sm, ef1]
            · have sm := wq_same2 (p1 := items) (p3 := items) (n1 := 19200) (n3 := 19200) (N := N) (d := 20 * (8 * p + k)) (e := 20 * (8 * q + k)) (l := c p k) (by omega) (by omega) (by omega) (by omega) (by omega) hall
              refine Or.inr ⟨fun h => hall ((h.2.2.2.1 (by omega)).2), ?_⟩
              simp (disch := omega) only [↓xf_rf_isArgumentAlike_s, wq_ltT, wq_ltF, wq_inT, wq_clamp, wq_eqF, wq_eqm, wq_meq, wq_add, wq_mul, wq_subT, eq_self, Bool.false_eq_true, ↓reduceIte, Option.bind_some, Sum.elim_inl, Sum.elim_inr, ↓wq_f0b, ↓wq_f1b, ↓wq_f2b, ↓wq_r0b, ↓wq_r1b, ↓Option.bind_some, f1, f2, ← ht, h2, h4, vc, vc', ← hcc, ↓wq_b sm, ef0]
        · refine Or.inr ⟨fun h => ?_, ?_⟩
          · by_cases h4 : t p k = 4
            · exact hcc (h.2.2.2.2 h4).1
            · exact hcc (h.2.2.2.1 (by omega)).1
          · simp (disch := omega) only [↓xf_rf_isArgumentAlike_s, wq_ltT, wq_ltF, wq_inT, wq_clamp, wq_eqF, wq_eqm, wq_meq, wq_add, wq_mul, wq_subT, eq_self, Bool.false_eq_true, ↓reduceIte, Option.bind_some, Sum.elim_inl, Sum.elim_inr, ↓wq_f0b, ↓wq_f1b, ↓wq_f2b, ↓wq_r0b, ↓wq_r1b, ↓Option.bind_some, f1, f2, ← ht, h2, vc, vc']
  · refine Or.inr ⟨fun h => ht h.1, ?_⟩
    simp (disch := omega) only [↓xf_rf_isArgumentAlike_s, wq_ltT, wq_ltF, wq_inT, wq_clamp, wq_eqF, wq_eqm, wq_meq, wq_add, wq_mul, wq_subT, eq_self, Bool.false_eq_true, ↓reduceIte, Option.bind_some, Sum.elim_inl, Sum.elim_inr, ↓wq_f0b, ↓wq_f1b, ↓wq_f2b, ↓wq_r0b, ↓wq_r1b, ↓Option.bind_some, f1, f2]
theorem wq_rline (hV : wi_V n a z m t c rl numbers letters names parts sorts values items) (hl : lines 0 = Int32.ofNat n) (hlk : ∀ x, x < n → lk x = Int32.ofNat (g x) ∧ g x < 40) {N p q : Nat} (hN : 41 ≤ N) (hp : p < n) (hq : q < n) :
    (wi_al n a z m t c names values items g p q ∧ xf_rf_isLineAlike items letters lk lines names numbers parts sorts values N (Int32.ofNat p) (Int32.ofNat q) = some (Int32.ofNat 1)) ∨ (¬ wi_al n a z m t c names values items g p q ∧ xf_rf_isLineAlike items letters lk lines names numbers parts sorts values N (Int32.ofNat p) (Int32.ofNat q) = some (Int32.ofNat 0)) := by
  have ef0 : (fits .boolean (.int (Int32.ofNat 0)) = true) = True := by decide
  have ef1 : (fits .boolean (.int (Int32.ofNat 1)) = true) = True := by decide
  have hn := hV.1.1
  obtain ⟨r5, r6, r7⟩ := hV.2.2.2.2.1 p hp
  obtain ⟨r5', r6', r7'⟩ := hV.2.2.2.2.1 q hq
  obtain ⟨l1, m1, m2, m3⟩ := hV.2.2.2.1 p hp
  obtain ⟨l1', m1', m2', m3'⟩ := hV.2.2.2.1 q hq
  have stop : ∀ M, 0 < M → ∀ k, k ≤ z p → xf_rf_isLineAlike_67 items letters lk lines names numbers parts sorts values N M (Int32.ofNat p) (Int32.ofNat q) (Int32.ofNat 0) (Int32.ofNat k) = some (Int32.ofNat 0) := by
    intro M hM k hk
    obtain ⟨M', rfl⟩ : ∃ M', M = M' + 1 := ⟨M - 1, by omega⟩
    by_cases hkz : k < z p
    · simp (disch := omega) only [↓xf_rf_isLineAlike_67_s, ↓xf_rf_isLineAlike_107_s, wq_ltT, wq_ltF, wq_inT, wq_clamp, wq_eqF, wq_eqm, wq_meq, wq_add, wq_mul, wq_subT, eq_self, Bool.false_eq_true, ↓reduceIte, Option.bind_some, Sum.elim_inl, Sum.elim_inr, ↓wq_f0b, ↓wq_f1b, ↓wq_f2b, ↓wq_r0b, ↓wq_r1b, ↓Option.bind_some, r5, ef0]
    · simp (disch := omega) only [↓xf_rf_isLineAlike_67_s, ↓xf_rf_isLineAlike_107_s, wq_ltT, wq_ltF, wq_inT, wq_clamp, wq_eqF, wq_eqm, wq_meq, wq_add, wq_mul, wq_subT, eq_self, Bool.false_eq_true, ↓reduceIte, Option.bind_some, Sum.elim_inl, Sum.elim_inr, ↓wq_f0b, ↓wq_f1b, ↓wq_f2b, ↓wq_r0b, ↓wq_r1b, ↓Option.bind_some, r5, ef0]
  have st0 := stop N (by omega) 0 (by omega)
  by_cases hm : m p = m q
  · by_cases hz : z p = z q
    · by_cases hnm : ∀ i, i < m p → names (8 * p + i) = names (8 * q + i)
      · have sm := wq_same1 (p1 := names) (p3 := names) (n1 := 960) (n3 := 960) (N := N) (d := 8 * p) (e := 8 * q) (l := m p) (by omega) (by omega) (by omega) (by omega) (by omega) hnm
        have step : xf_rf_isLineAlike items letters lk lines names numbers parts sorts values N (Int32.ofNat p) (Int32.ofNat q) = xf_rf_isLineAlike_67 items letters lk lines names numbers parts sorts values N N (Int32.ofNat p) (Int32.ofNat q) (Int32.ofNat 1) (Int32.ofNat 0) := by
          simp (disch := omega) only [↓xf_rf_isLineAlike_s, ↓xf_rf_isLineAlike_63_s, wq_ltT, wq_ltF, wq_inT, wq_clamp, wq_eqF, wq_eqm, wq_meq, wq_add, wq_mul, wq_subT, eq_self, Bool.false_eq_true, ↓reduceIte, Option.bind_some, Sum.elim_inl, Sum.elim_inr, ↓wq_f0b, ↓wq_f1b, ↓wq_f2b, ↓wq_r0b, ↓wq_r1b, ↓Option.bind_some, l1, l1', ← hm, r5, r5', ← hz, ↓wq_b sm]
        rw [step]
        have loop : ∀ l k M, k + l = z p → l < M → ((∀ j, k ≤ j → j < z p → wi_ala n a t c values items g p q j) ∧ xf_rf_isLineAlike_67 items letters lk lines names numbers parts sorts values N M (Int32.ofNat p) (Int32.ofNat q) (Int32.ofNat 1) (Int32.ofNat k) = some (Int32.ofNat 1)) ∨ (¬ (∀ j, k ≤ j → j < z p → wi_ala n a t c values items g p q j) ∧ xf_rf_isLineAlike_67 items letters lk lines names numbers parts sorts values N M (Int32.ofNat p) (Int32.ofNat q) (Int32.ofNat 1) (Int32.ofNat k) = some (Int32.ofNat 0)) := by
          intro l
          induction l with
          | zero =>
            intro k M hk hM
            obtain ⟨M', rfl⟩ : ∃ M', M = M' + 1 := ⟨M - 1, by omega⟩
            refine Or.inl ⟨fun j h1 h2 => absurd h2 (by omega), ?_⟩
            simp (disch := omega) only [↓xf_rf_isLineAlike_67_s, ↓xf_rf_isLineAlike_107_s, wq_ltT, wq_ltF, wq_inT, wq_clamp, wq_eqF, wq_eqm, wq_meq, wq_add, wq_mul, wq_subT, eq_self, Bool.false_eq_true, ↓reduceIte, Option.bind_some, Sum.elim_inl, Sum.elim_inr, ↓wq_f0b, ↓wq_f1b, ↓wq_f2b, ↓wq_r0b, ↓wq_r1b, ↓Option.bind_some, r5, ef1]
          | succ l ih =>
            intro k M hk hM
            obtain ⟨M', rfl⟩ : ∃ M', M = M' + 1 := ⟨M - 1, by omega⟩
            have key := ih (k + 1) M' (by omega) (by omega)
            rcases wq_ral hV hl hlk hN hp (k := k) (by omega) hq (by omega) with ⟨a1, a2⟩ | ⟨a1, a2⟩
            · have e4 : xf_rf_isLineAlike_67 items letters lk lines names numbers parts sorts values N (M' + 1) (Int32.ofNat p) (Int32.ofNat q) (Int32.ofNat 1) (Int32.ofNat k) = xf_rf_isLineAlike_67 items letters lk lines names numbers parts sorts values N M' (Int32.ofNat p) (Int32.ofNat q) (Int32.ofNat 1) (Int32.ofNat (k + 1)) := by
                rw [xf_rf_isLineAlike_67_s]
                simp (disch := omega) only [wq_ltT, wq_ltF, wq_inT, wq_clamp, wq_eqF, wq_eqm, wq_meq, wq_add, wq_mul, wq_subT, eq_self, Bool.false_eq_true, ↓reduceIte, Option.bind_some, Sum.elim_inl, Sum.elim_inr, ↓wq_f0b, ↓wq_f1b, ↓wq_f2b, ↓wq_r0b, ↓wq_r1b, ↓Option.bind_some, r5, ↓wq_b a2]
              rw [e4]
              rcases key with ⟨k1, k2⟩ | ⟨k1, k2⟩
              · refine Or.inl ⟨fun j h1 h2 => ?_, k2⟩
                by_cases e : j = k
                · rw [e]
                  exact a1
                · exact k1 j (by omega) h2
              · exact Or.inr ⟨fun h => k1 (fun j h1 h2 => h j (by omega) h2), k2⟩
            · refine Or.inr ⟨fun h => a1 (h k (Nat.le_refl k) (by omega)), ?_⟩
              rw [xf_rf_isLineAlike_67_s]
              simp (disch := omega) only [wq_ltT, wq_ltF, wq_inT, wq_clamp, wq_eqF, wq_eqm, wq_meq, wq_add, wq_mul, wq_subT, eq_self, Bool.false_eq_true, ↓reduceIte, Option.bind_some, Sum.elim_inl, Sum.elim_inr, ↓wq_f0b, ↓wq_f1b, ↓wq_f2b, ↓wq_r0b, ↓wq_r1b, ↓Option.bind_some, r5, ↓wq_b a2, stop M' (by omega) (k + 1) (by omega)]
        rcases loop (z p) 0 N (by omega) (by omega) with ⟨k1, k2⟩ | ⟨k1, k2⟩
        · exact Or.inl ⟨⟨hm, hnm, hz, fun k hk => k1 k (by omega) hk⟩, k2⟩
        · exact Or.inr ⟨fun h => k1 (fun j _ hj => h.2.2.2 j hj), k2⟩
      · have sm := wq_same2 (p1 := names) (p3 := names) (n1 := 960) (n3 := 960) (N := N) (d := 8 * p) (e := 8 * q) (l := m p) (by omega) (by omega) (by omega) (by omega) (by omega) hnm
        refine Or.inr ⟨fun h => hnm h.2.1, ?_⟩
        simp (disch := omega) only [↓xf_rf_isLineAlike_s, ↓xf_rf_isLineAlike_62_s, ↓xf_rf_isLineAlike_63_s, wq_ltT, wq_ltF, wq_inT, wq_clamp, wq_eqF, wq_eqm, wq_meq, wq_add, wq_mul, wq_subT, eq_self, Bool.false_eq_true, ↓reduceIte, Option.bind_some, Sum.elim_inl, Sum.elim_inr, ↓wq_f0b, ↓wq_f1b, ↓wq_f2b, ↓wq_r0b, ↓wq_r1b, ↓Option.bind_some, l1, l1', ← hm, r5, r5', ← hz, ↓wq_b sm, st0]
    · refine Or.inr ⟨fun h => hz h.2.2.1, ?_⟩
      simp (disch := omega) only [↓xf_rf_isLineAlike_s, ↓xf_rf_isLineAlike_62_s, ↓xf_rf_isLineAlike_63_s, wq_ltT, wq_ltF, wq_inT, wq_clamp, wq_eqF, wq_eqm, wq_meq, wq_add, wq_mul, wq_subT, eq_self, Bool.false_eq_true, ↓reduceIte, Option.bind_some, Sum.elim_inl, Sum.elim_inr, ↓wq_f0b, ↓wq_f1b, ↓wq_f2b, ↓wq_r0b, ↓wq_r1b, ↓Option.bind_some, l1, l1', ← hm, r5, r5', st0]
  · refine Or.inr ⟨fun h => hm h.1, ?_⟩
    simp (disch := omega) only [↓xf_rf_isLineAlike_s, ↓xf_rf_isLineAlike_62_s, ↓xf_rf_isLineAlike_63_s, wq_ltT, wq_ltF, wq_inT, wq_clamp, wq_eqF, wq_eqm, wq_meq, wq_add, wq_mul, wq_subT, eq_self, Bool.false_eq_true, ↓reduceIte, Option.bind_some, Sum.elim_inl, Sum.elim_inr, ↓wq_f0b, ↓wq_f1b, ↓wq_f2b, ↓wq_r0b, ↓wq_r1b, ↓Option.bind_some, l1, l1', st0]
end
