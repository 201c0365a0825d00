/-! Numbers of Int32 that are small and not negative. -/
theorem wq_int {a : Nat} (h : a < 2147483648) : (Int32.ofNat a).toInt = a := wp_int h
theorem wq_clamp {a : Nat} (h : a < 2147483648) : (Int32.ofNat a).toNatClampNeg = a := wp_nat h
theorem wq_ltT {a b : Nat} (h : a < b) (hb : b < 2147483648) : (Int32.ofNat a < Int32.ofNat b) = True := by
  apply eq_true
  rw [Int32.lt_iff_toInt_lt, wq_int (by omega), wq_int hb]
  omega
theorem wq_ltF {a b : Nat} (h : b ≤ a) (ha : a < 2147483648) : (Int32.ofNat a < Int32.ofNat b) = False := by
  apply eq_false
  rw [Int32.lt_iff_toInt_lt, wq_int ha, wq_int (by omega)]
  omega
theorem wq_lt {a b : Nat} (ha : a < 2147483648) (hb : b < 2147483648) : (Int32.ofNat a < Int32.ofNat b) = (a < b) := by
  by_cases h : a < b
  · rw [wq_ltT h hb, eq_true h]
  · rw [wq_ltF (by omega) ha, eq_false h]
theorem wq_inT {a m : Nat} (h : a < m) (ha : a < 2147483648) : (xr_in (Int32.ofNat a) m = true) = True := eq_true (wp_in h ha)
theorem wq_inj {a b : Nat} (ha : a < 2147483648) (hb : b < 2147483648) (h : Int32.ofNat a = Int32.ofNat b) : a = b := by
  have h1 := congrArg Int32.toNatClampNeg h
  rwa [wq_clamp ha, wq_clamp hb] at h1
theorem wq_eqF {a b : Nat} (h : a ≠ b) (ha : a < 2147483648) (hb : b < 2147483648) : (Int32.ofNat a = Int32.ofNat b) = False := eq_false (fun e => h (wq_inj ha hb e))
theorem wq_eq {a b : Nat} (ha : a < 2147483648) (hb : b < 2147483648) : (Int32.ofNat a = Int32.ofNat b) = (a = b) := propext ⟨wq_inj ha hb, fun e => by rw [e]⟩
theorem wq_eqm {a : Nat} (ha : a < 2147483648) : (Int32.ofNat a = (-1 : Int32)) = False := by
  apply eq_false
  intro e
  have h1 := congrArg Int32.toInt e
  rw [wq_int ha] at h1
  have h2 : (-1 : Int32).toInt = -1 := by decide
  omega
theorem wq_meq {a : Nat} (ha : a < 2147483648) : ((-1 : Int32) = Int32.ofNat a) = False := by
  apply eq_false
  intro e
  exact (wq_eqm ha).mp e.symm
theorem wq_mlt {a : Nat} (ha : a < 2147483648) : ((-1 : Int32) < Int32.ofNat a) = True := by
  apply eq_true
  rw [Int32.lt_iff_toInt_lt, wq_int ha]
  have h2 : (-1 : Int32).toInt = -1 := by decide
  omega
theorem wq_ltm {a : Nat} (ha : a < 2147483648) : (Int32.ofNat a < (-1 : Int32)) = False := by
  apply eq_false
  rw [Int32.lt_iff_toInt_lt, wq_int ha]
  have h2 : (-1 : Int32).toInt = -1 := by decide
  omega
theorem wq_add {a b : Nat} : Int32.ofNat a + Int32.ofNat b = Int32.ofNat (a + b) := (Int32.ofNat_add a b).symm
theorem wq_mul {a b : Nat} : Int32.ofNat a * Int32.ofNat b = Int32.ofNat (a * b) := (Int32.ofNat_mul a b).symm
theorem wq_subT {a b : Nat} (h : b ≤ a) (ha : a < 2147483648) : Int32.ofNat a - Int32.ofNat b = Int32.ofNat (a - b) := by
  apply Int32.toInt_inj.mp
  rw [Int32.toInt_sub, wq_int ha, wq_int (by omega), wq_int (by omega), Int.bmod_eq_of_le] <;> omega
theorem wq_sgn (x : Int32) : x < Int32.ofNat 0 ∨ ∃ k, k < 2147483648 ∧ x = Int32.ofNat k := by
  by_cases h : x < Int32.ofNat 0
  · exact Or.inl h
  · refine Or.inr ⟨x.toNatClampNeg, ?_, ?_⟩
    · have h1 := x.toInt_lt
      have h2 : x.toNatClampNeg = x.toInt.toNat := rfl
      omega
    · have h1 := x.toInt_lt
      have h2 : x.toNatClampNeg = x.toInt.toNat := rfl
      have h3 : ¬ x.toInt < (Int32.ofNat 0).toInt := fun hh => h (Int32.lt_iff_toInt_lt.mpr hh)
      have h4 : (Int32.ofNat 0).toInt = 0 := rfl
      apply Int32.toInt_inj.mp
      rw [wq_int (by omega)]
      omega
/-- what lies between two small numbers is one -/
theorem wq_btw {x : Int32} {a b : Nat} (ha : a < 2147483648) (hb : b < 2147483648) (h1 : ¬ x < Int32.ofNat a) (h2 : ¬ Int32.ofNat b < x) : ∃ k, a ≤ k ∧ k ≤ b ∧ x = Int32.ofNat k := by
  rcases wq_sgn x with h | ⟨k, hk, rfl⟩
  · exfalso
    apply h1
    have h3 := Int32.lt_iff_toInt_lt.mp h
    have h4 : (Int32.ofNat 0).toInt = 0 := rfl
    rw [Int32.lt_iff_toInt_lt, wq_int ha]
    omega
  · refine ⟨k, ?_, ?_, rfl⟩
    · rw [wq_lt hk ha] at h1
      omega
    · rw [wq_lt hb hk] at h2
      omega
theorem wq_neg {x : Int32} (h : x < Int32.ofNat 0) {a : Nat} (ha : a < 2147483648) : (x = Int32.ofNat a) = False := by
  apply eq_false
  intro e
  rw [e, wq_ltF (by omega) ha] at h
  exact h
theorem wq_neglt {x : Int32} (h : x < Int32.ofNat 0) {a : Nat} (ha : a < 2147483648) : (x < Int32.ofNat a) = True := by
  apply eq_true
  have h3 := Int32.lt_iff_toInt_lt.mp h
  have h4 : (Int32.ofNat 0).toInt = 0 := rfl
  rw [Int32.lt_iff_toInt_lt, wq_int ha]
  omega
/-- a loop with a counter -/
theorem wq_loop {σ α : Type} (F : Nat → σ → Int32 → Option α) (I : Nat → σ → Prop) (Q : Option α → Prop) (m : Nat)
    (hs : ∀ N p s, p < m → I p s → Q (F (N + 1) s (Int32.ofNat p)) ∨ ∃ s', I (p + 1) s' ∧ F (N + 1) s (Int32.ofNat p) = F N s' (Int32.ofNat (p + 1)))
    (he : ∀ N s, I m s → Q (F (N + 1) s (Int32.ofNat m))) :
    ∀ k p N s, p + k = m → k < N → I p s → Q (F N s (Int32.ofNat p)) := by
  intro k
  induction k with
  | zero =>
    intro p N s hp hN hI
    obtain ⟨N', rfl⟩ : ∃ N', N = N' + 1 := ⟨N - 1, by omega⟩
    have e : p = m := by omega
    rw [e] at hI ⊢
    exact he N' s hI
  | succ k ih =>
    intro p N s hp hN hI
    obtain ⟨N', rfl⟩ : ∃ N', N = N' + 1 := ⟨N - 1, by omega⟩
    rcases hs N' p s (by omega) hI with h | ⟨s', h1, h2⟩
    · exact h
    · rw [h2]
      exact ih (p + 1) N' s' (by omega) (by omega) h1
/-- the first place at which something holds -/
def wq_lst (c : Nat → Bool) : Nat → Nat → Option Nat
  | 0, _ => none
  | k + 1, p => if c p = true then some p else wq_lst c k (p + 1)
theorem wq_lst_congr {c d : Nat → Bool} : ∀ (k p : Nat), (∀ q, p ≤ q → q < p + k → c q = d q) → wq_lst c k p = wq_lst d k p := by
  intro k
  induction k with
  | zero => intro p _; rfl
  | succ k ih =>
    intro p h
    have e := ih (p + 1) (fun q h1 h2 => h q (by omega) (by omega))
    unfold wq_lst
    rw [h p (by omega) (by omega), e]
theorem wq_lst_some {c : Nat → Bool} : ∀ (k p q : Nat), wq_lst c k p = some q → p ≤ q ∧ q < p + k ∧ c q = true ∧ ∀ r, p ≤ r → r < q → c r = false := by
  intro k
  induction k with
  | zero => intro p q h; exact absurd h (by simp [wq_lst])
  | succ k ih =>
    intro p q h
    unfold wq_lst at h
    by_cases hc : c p = true
    · rw [if_pos hc] at h
      have e : p = q := Option.some.inj h
      subst e
      exact ⟨by omega, by omega, hc, fun r h1 h2 => by omega⟩
    · rw [if_neg hc] at h
      obtain ⟨h1, h2, h3, h4⟩ := ih (p + 1) q h
      refine ⟨by omega, by omega, h3, fun r h5 h6 => ?_⟩
      by_cases e : r = p
      · rw [e]
        exact Bool.not_eq_true _ ▸ hc
      · exact h4 r (by omega) h6
theorem wq_lst_none {c : Nat → Bool} : ∀ (k p : Nat), wq_lst c k p = none → ∀ r, p ≤ r → r < p + k → c r = false := by
  intro k
  induction k with
  | zero => intro p _ r h1 h2; omega
  | succ k ih =>
    intro p h r h1 h2
    unfold wq_lst at h
    by_cases hc : c p = true
    · rw [if_pos hc] at h
      exact absurd h (by simp)
    · rw [if_neg hc] at h
      by_cases e : r = p
      · rw [e]
        exact Bool.not_eq_true _ ▸ hc
      · exact ih (p + 1) h r (by omega) (by omega)
/-- a place as a number, -1 for none -/
def wq_or (f : Nat → Nat) : Option Nat → Int32
  | some q => Int32.ofNat (f q)
  | none => -1
/-- the line that has a number -/
def wq_fx (a : Nat → Nat) (n : Nat) (x : Int32) : Option Nat := wq_lst (fun p => decide (Int32.ofNat (a p) = x)) n 0
theorem wq_fx_some {a : Nat → Nat} {n : Nat} {x : Int32} {q : Nat} (h : wq_fx a n x = some q) : q < n ∧ Int32.ofNat (a q) = x := by
  obtain ⟨h1, h2, h3, _⟩ := wq_lst_some n 0 q h
  exact ⟨by omega, of_decide_eq_true h3⟩
theorem wq_fx_at {a : Nat → Nat} {n q : Nat} (hq : q < n) (ha : ∀ p, p < n → a p < 2147483648) (hi : ∀ p r, p < r → r < n → a p < a r) : wq_fx a n (Int32.ofNat (a q)) = some q := by
  cases h : wq_fx a n (Int32.ofNat (a q)) with
  | none =>
    have h1 := wq_lst_none n 0 h q (by omega) (by omega)
    simp at h1
  | some r =>
    obtain ⟨h1, h2⟩ := wq_fx_some h
    have h3 := wq_inj (ha r h1) (ha q hq) h2
    have h4 : ¬ r < q := fun hh => by have := hi r q hh hq; omega
    have h5 : ¬ q < r := fun hh => by have := hi q r hh h1; omega
    have h6 : r = q := by omega
    rw [h6]
theorem wq_rowOf {n : Nat} {o a : Nat → Nat} {number order : Nat → Int32} (hn : n ≤ 40) (ho : ∀ p, p < n → o p < 40 ∧ order p = Int32.ofNat (o p) ∧ number (o p) = Int32.ofNat (a p)) {N : Nat} (hN : 41 ≤ N) (x : Int32) :
    xf_md_rowOf (Int32.ofNat n) number order N x = some (wq_or o (wq_fx a n x)) := by
  rw [xf_md_rowOf_s]
  suffices h : ∀ k p M, p + k = n → k < M → xf_md_rowOf_2 (Int32.ofNat n) number order N M x (Int32.ofNat p) = some (wq_or o (wq_lst (fun p => decide (Int32.ofNat (a p) = x)) k p)) from h n 0 N (by omega) (by omega)
  intro k
  induction k with
  | zero =>
    intro p M hp hM
    obtain ⟨M', rfl⟩ : ∃ M', M = M' + 1 := ⟨M - 1, by omega⟩
    simp (disch := omega) only [xf_md_rowOf_2_s, wq_ltT, wq_ltF, wq_inT, wq_clamp, wq_eqF, wq_eqm, wq_meq, wq_add, wq_mul, wq_subT, eq_self, Bool.false_eq_true, ↓reduceIte, Option.bind_some, Sum.elim_inl, Sum.elim_inr, wq_lst, wq_or]
  | succ k ih =>
    intro p M hp hM
    obtain ⟨M', rfl⟩ : ∃ M', M = M' + 1 := ⟨M - 1, by omega⟩
    obtain ⟨h1, h2, h3⟩ := ho p (by omega)
    have e := ih (p + 1) M' (by omega) (by omega)
    by_cases hx : Int32.ofNat (a p) = x
    · simp (disch := omega) only [xf_md_rowOf_2_s, wq_ltT, wq_ltF, wq_inT, wq_clamp, wq_eqF, wq_eqm, wq_meq, wq_add, wq_mul, wq_subT, eq_self, Bool.false_eq_true, ↓reduceIte, Option.bind_some, Sum.elim_inl, Sum.elim_inr, h2, h3, hx, wq_lst, wq_or, decide_true]
    · simp (disch := omega) only [xf_md_rowOf_2_s, wq_ltT, wq_ltF, wq_inT, wq_clamp, wq_eqF, wq_eqm, wq_meq, wq_add, wq_mul, wq_subT, eq_self, Bool.false_eq_true, ↓reduceIte, Option.bind_some, Sum.elim_inl, Sum.elim_inr, h2, h3, hx, wq_lst, e, decide_false, Bool.false_eq_true]
theorem wq_find {b n : Nat} {a : Nat → Nat} {lines numbers : Nat → Int32} (d : Nat) (hd : b = 40 * d) (hd2 : d < 3) (hn : n ≤ 40) (hl : lines d = Int32.ofNat n) (ho : ∀ p, p < n → numbers (b + p) = Int32.ofNat (a p)) {N : Nat} (hN : 41 ≤ N) (x : Int32) :
    xf_rf_find lines numbers N (Int32.ofNat d) x = some (wq_or (fun q => b + q) (wq_fx a n x)) := by
  subst hd
  rw [xf_rf_find_s, wq_mul]
  suffices h : ∀ k p M, p + k = n → k < M → xf_rf_find_5 lines numbers N M (Int32.ofNat d) x (Int32.ofNat (40 * d + p)) = some (wq_or (fun q => 40 * d + q) (wq_lst (fun p => decide (Int32.ofNat (a p) = x)) k p)) from h n 0 N (by omega) (by omega)
  intro k
  induction k with
  | zero =>
    intro p M hp hM
    obtain ⟨M', rfl⟩ : ∃ M', M = M' + 1 := ⟨M - 1, by omega⟩
    simp (disch := omega) only [xf_rf_find_5_s, wq_ltT, wq_ltF, wq_inT, wq_clamp, wq_eqF, wq_eqm, wq_meq, wq_add, wq_mul, wq_subT, eq_self, Bool.false_eq_true, ↓reduceIte, Option.bind_some, Sum.elim_inl, Sum.elim_inr, hl, wq_lst, wq_or]
  | succ k ih =>
    intro p M hp hM
    obtain ⟨M', rfl⟩ : ∃ M', M = M' + 1 := ⟨M - 1, by omega⟩
    have h3 := ho p (by omega)
    have e := ih (p + 1) M' (by omega) (by omega)
    rw [← Nat.add_assoc] at e
    by_cases hx : Int32.ofNat (a p) = x
    · simp (disch := omega) only [xf_rf_find_5_s, wq_ltT, wq_ltF, wq_inT, wq_clamp, wq_eqF, wq_eqm, wq_meq, wq_add, wq_mul, wq_subT, eq_self, Bool.false_eq_true, ↓reduceIte, Option.bind_some, Sum.elim_inl, Sum.elim_inr, hl, h3, hx, wq_lst, wq_or, decide_true]
    · simp (disch := omega) only [xf_rf_find_5_s, wq_ltT, wq_ltF, wq_inT, wq_clamp, wq_eqF, wq_eqm, wq_meq, wq_add, wq_mul, wq_subT, eq_self, Bool.false_eq_true, ↓reduceIte, Option.bind_some, Sum.elim_inl, Sum.elim_inr, hl, h3, hx, wq_lst, e, decide_false, Bool.false_eq_true]
theorem wq_rowAt {n : Nat} {o : Nat → Nat} {order : Nat → Int32} (hn : n ≤ 40) (ho : ∀ p, p < n → order p = Int32.ofNat (o p)) {p : Nat} (hp : p < n) : xf_md_rowAt (Int32.ofNat n) order (Int32.ofNat p) = some (Int32.ofNat (o p)) := by
  simp (disch := omega) only [↓xf_md_rowAt_22_s, ↓xf_md_rowAt_21_s, ↓xf_md_rowAt_s, wq_ltT, wq_ltF, wq_inT, wq_clamp, wq_eqF, wq_eqm, wq_meq, wq_add, wq_mul, wq_subT, eq_self, Bool.false_eq_true, ↓reduceIte, Option.bind_some, Sum.elim_inl, Sum.elim_inr, ho p hp]
theorem wq_rowAt2 {n : Nat} {order : Nat → Int32} (hn : n ≤ 40) {p : Nat} (hp : n ≤ p) (hp2 : p < 2147483648) : xf_md_rowAt (Int32.ofNat n) order (Int32.ofNat p) = some (-1) := by
  simp (disch := omega) only [↓xf_md_rowAt_22_s, ↓xf_md_rowAt_21_s, ↓xf_md_rowAt_s, wq_ltT, wq_ltF, wq_inT, wq_clamp, wq_eqF, wq_eqm, wq_meq, wq_add, wq_mul, wq_subT, eq_self, Bool.false_eq_true, ↓reduceIte, Option.bind_some, Sum.elim_inl, Sum.elim_inr]
theorem wq_f0 (b : Int32) : xf_rf_fails (Int32.ofNat 0) (Int32.ofNat 0) b = some (Int32.ofNat 0, Int32.ofNat 0) := by
  simp only [↓xf_rf_fails_28_s, ↓xf_rf_fails_16_s, ↓xf_rf_fails_s]
  rfl
theorem wq_f1 : xf_rf_fails (Int32.ofNat 0) (Int32.ofNat 1) (Int32.ofNat 1) = some (Int32.ofNat 1, Int32.ofNat 1) := by decide
theorem wq_f2 : xf_rf_fails (Int32.ofNat 0) (Int32.ofNat 1) (Int32.ofNat 2) = some (Int32.ofNat 1, Int32.ofNat 2) := by decide
theorem wq_ne1 : ¬ Int32.ofNat 1 = (0 : Int32) := by decide
theorem wq_ne2 : ¬ Int32.ofNat 2 = (0 : Int32) := by decide
theorem wq_b {α β : Type} {X : Option α} {v : α} (h : X = some v) (f : α → Option β) : X.bind f = f v := by
  rw [h]
  rfl
theorem wq_f0b {β : Type} (b : Int32) (f : Int32 × Int32 → Option β) : (xf_rf_fails (Int32.ofNat 0) (Int32.ofNat 0) b).bind f = f (Int32.ofNat 0, Int32.ofNat 0) := wq_b (wq_f0 b) f
theorem wq_f1b {β : Type} (f : Int32 × Int32 → Option β) : (xf_rf_fails (Int32.ofNat 0) (Int32.ofNat 1) (Int32.ofNat 1)).bind f = f (Int32.ofNat 1, Int32.ofNat 1) := wq_b wq_f1 f
theorem wq_f2b {β : Type} (f : Int32 × Int32 → Option β) : (xf_rf_fails (Int32.ofNat 0) (Int32.ofNat 1) (Int32.ofNat 2)).bind f = f (Int32.ofNat 1, Int32.ofNat 2) := wq_b wq_f2 f
theorem wq_r0b {β : Type} (f : Unit ⊕ String → Option β) : (xf_xt_refuseUnless (Int32.ofNat 0)).bind f = f (.inr "java/lang/IllegalArgumentException") := wq_b (by rw [xf_xt_refuseUnless_s, if_pos rfl]) f
theorem wq_r1b {β : Type} (f : Unit ⊕ String → Option β) : (xf_xt_refuseUnless (Int32.ofNat 1)).bind f = f (.inl ()) := wq_b (by rw [xf_xt_refuseUnless_s, if_neg (by decide)]) f
