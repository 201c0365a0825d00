/-! NAMES: letters beside one long. -/
theorem wq_cmp0 (x y : Int64) : (lg_cmp x y = Int32.ofNat 0) = (x = y) := by
  apply propext
  unfold lg_cmp
  by_cases h : x = y
  · subst h
    simp
  · constructor
    · intro hh
      by_cases h2 : x > y
      · rw [if_pos h2] at hh
        exact absurd hh (by decide)
      · rw [if_neg h2, if_neg h] at hh
        exact absurd hh (by decide)
    · intro hh
      exact absurd hh h
theorem wq_i2l {k : Nat} (h : k < 2147483648) : ((Int32.ofNat k).toInt64).toBitVec.toNat = k := by
  have e : (Int32.ofNat k).toInt64 = Int64.ofNat k := by
    apply Int64.toInt_inj.mp
    rw [Int32.toInt_toInt64, wq_int h, Int64.toInt_ofNat_of_lt (by omega)]
  rw [e]
  show (BitVec.ofNat 64 k).toNat = k
  rw [BitVec.toNat_ofNat]
  exact Nat.mod_eq_of_lt (by omega)
def wq_np (g : Nat → Nat) (b : Nat) : Nat → Nat
  | 0 => 0
  | m + 1 => wq_np g b m * 256 + g (b + m)
theorem wq_np_lt {g : Nat → Nat} {b : Nat} : ∀ m, (∀ i, i < m → g (b + i) < 256) → wq_np g b m < 256 ^ m := by
  intro m
  induction m with
  | zero => intro _; exact Nat.one_pos
  | succ m ih =>
    intro h
    have h1 := ih (fun i hi => h i (by omega))
    have h2 := h m (by omega)
    rw [wq_np, Nat.pow_succ]
    omega
theorem wq_shl8 (x : Int64) : (xe_shl x (Int32.ofNat 8)).toBitVec = x.toBitVec <<< 8 := rfl
theorem wq_packn {f : Nat → Int32} {b : Nat} : ∀ m, m ≤ 8 → (∀ i, i < m → ∃ k, 65 ≤ k ∧ k ≤ 90 ∧ f (b + i) = Int32.ofNat k) → (wq_pack f b m).toBitVec.toNat = wq_np (fun j => (f j).toNatClampNeg) b m := by
  intro m
  induction m with
  | zero => intro _ _; rfl
  | succ m ih =>
    intro hm h
    have h1 := ih (by omega) (fun i hi => h i (by omega))
    obtain ⟨k, k1, k2, k3⟩ := h m (by omega)
    have h2 : wq_np (fun j => (f j).toNatClampNeg) b m < 256 ^ m := wq_np_lt m (fun i hi => by
      obtain ⟨k, k1, k2, k3⟩ := h i (by omega)
      show (f (b + i)).toNatClampNeg < 256
      rw [k3, wq_clamp (by omega)]
      omega)
    have h3 : 256 ^ m ≤ 256 ^ 7 := Nat.pow_le_pow_right (by omega) (by omega)
    have h4 : (256 : Nat) ^ 7 = 72057594037927936 := by decide
    rw [wq_pack, wq_np, Int64.toBitVec_or, BitVec.toNat_or, wq_shl8, BitVec.toNat_shiftLeft, h1, k3, wq_i2l (by omega), wq_clamp (by omega), Nat.shiftLeft_eq, Nat.mod_eq_of_lt (by omega)]
    rw [← Nat.shiftLeft_eq, ← Nat.shiftLeft_add_eq_or_of_lt (by omega), Nat.shiftLeft_eq]
theorem wq_np_inj {g g' : Nat → Nat} {b b' : Nat} : ∀ m m', (∀ i, i < m → 0 < g (b + i) ∧ g (b + i) < 256) → (∀ i, i < m' → 0 < g' (b' + i) ∧ g' (b' + i) < 256) → wq_np g b m = wq_np g' b' m' → m = m' ∧ ∀ i, i < m → g (b + i) = g' (b' + i) := by
  intro m
  induction m with
  | zero =>
    intro m' _ h2 h3
    cases m' with
    | zero => exact ⟨rfl, fun i hi => absurd hi (by omega)⟩
    | succ m' =>
      have h4 := h2 m' (by omega)
      rw [wq_np, wq_np] at h3
      omega
  | succ m ih =>
    intro m' h1 h2 h3
    have h5 := h1 m (by omega)
    cases m' with
    | zero =>
      rw [wq_np, wq_np] at h3
      omega
    | succ m' =>
      have h4 := h2 m' (by omega)
      rw [wq_np, wq_np] at h3
      have h6 : wq_np g b m = wq_np g' b' m' := by omega
      obtain ⟨h7, h8⟩ := ih m' (fun i hi => h1 i (by omega)) (fun i hi => h2 i (by omega)) h6
      refine ⟨by omega, fun i hi => ?_⟩
      by_cases e : i = m
      · rw [e, h7]
        rw [h7] at h3 h6
        omega
      · exact h8 i (by omega)
theorem wq_pack_eq {f f' : Nat → Int32} {b b' m m' : Nat} (hm : m ≤ 8) (hm' : m' ≤ 8) (h : ∀ i, i < m → ∃ k, 65 ≤ k ∧ k ≤ 90 ∧ f (b + i) = Int32.ofNat k) (h' : ∀ i, i < m' → ∃ k, 65 ≤ k ∧ k ≤ 90 ∧ f' (b' + i) = Int32.ofNat k) :
    wq_pack f b m = wq_pack f' b' m' ↔ (m = m' ∧ ∀ i, i < m → f (b + i) = f' (b' + i)) := by
  constructor
  · intro e
    have e1 := congrArg (fun x : Int64 => x.toBitVec.toNat) e
    have e2 : wq_np (fun j => (f j).toNatClampNeg) b m = wq_np (fun j => (f' j).toNatClampNeg) b' m' := by
      rw [← wq_packn m hm h, ← wq_packn m' hm' h']
      exact e1
    obtain ⟨e3, e4⟩ := wq_np_inj m m' (fun i hi => by
      obtain ⟨k, k1, k2, k3⟩ := h i hi
      show 0 < (f (b + i)).toNatClampNeg ∧ (f (b + i)).toNatClampNeg < 256
      rw [k3, wq_clamp (by omega)]
      omega) (fun i hi => by
      obtain ⟨k, k1, k2, k3⟩ := h' i hi
      show 0 < (f' (b' + i)).toNatClampNeg ∧ (f' (b' + i)).toNatClampNeg < 256
      rw [k3, wq_clamp (by omega)]
      omega) e2
    refine ⟨e3, fun i hi => ?_⟩
    have e5 : (f (b + i)).toNatClampNeg = (f' (b' + i)).toNatClampNeg := e4 i hi
    obtain ⟨k, k1, k2, k3⟩ := h i hi
    obtain ⟨l, l1, l2, l3⟩ := h' i (by omega)
    rw [k3, l3, wq_clamp (by omega), wq_clamp (by omega)] at e5
    rw [k3, l3, e5]
  · rintro ⟨rfl, e⟩
    have g : ∀ j, j ≤ m → wq_pack f b j = wq_pack f' b' j := by
      intro j
      induction j with
      | zero => intro _; rfl
      | succ j ih =>
        intro hj
        rw [wq_pack, wq_pack, ih (by omega), e j (by omega)]
    exact g m (Nat.le_refl m)
/-- the reference's comparison of two stretches -/
theorem wq_same0 {p1 p3 : Nat → Int32} {n1 n3 N d e l : Nat} : ∀ k i M, i + k = l → k < M → l < 2147483648 → xf_rf_isSame_6 p1 p3 n1 n3 N M (Int32.ofNat d) (Int32.ofNat e) (Int32.ofNat l) (Int32.ofNat 0) (Int32.ofNat i) = some (Int32.ofNat 0) := by
  intro k
  have ef : (fits .boolean (.int (Int32.ofNat 0)) = true) = True := by decide
  induction k with
  | zero =>
    intro i M hi hM hl
    obtain ⟨M', rfl⟩ : ∃ M', M = M' + 1 := ⟨M - 1, by omega⟩
    simp (disch := omega) only [xf_rf_isSame_6_s, wq_ltT, wq_ltF, wq_inT, wq_clamp, wq_eqF, wq_eqm, wq_meq, wq_add, wq_mul, wq_subT, eq_self, Bool.false_eq_true, ↓reduceIte, Option.bind_some, Sum.elim_inl, Sum.elim_inr, ↓wq_f0b, ↓wq_f1b, ↓wq_f2b, ↓wq_r0b, ↓wq_r1b, ↓Option.bind_some, ef]
  | succ k ih =>
    intro i M hi hM hl
    obtain ⟨M', rfl⟩ : ∃ M', M = M' + 1 := ⟨M - 1, by omega⟩
    simp (disch := omega) only [xf_rf_isSame_6_s, xf_rf_isSame_37_s, xf_rf_isSame_38_s, wq_ltT, wq_ltF, wq_inT, wq_clamp, wq_eqF, wq_eqm, wq_meq, wq_add, wq_mul, wq_subT, eq_self, Bool.false_eq_true, ↓reduceIte, Option.bind_some, Sum.elim_inl, Sum.elim_inr, ↓wq_f0b, ↓wq_f1b, ↓wq_f2b, ↓wq_r0b, ↓wq_r1b, ↓Option.bind_some, ih (i + 1) M' (by omega) (by omega) hl]
theorem wq_sameL {p1 p3 : Nat → Int32} {n1 n3 N d e l : Nat} (h1 : d + l ≤ n1) (h3 : e + l ≤ n3) (hn1 : n1 < 1000000) (hn3 : n3 < 1000000) : ∀ k i M, i + k = l → k < M →
    ((∀ j, i ≤ j → j < l → p1 (d + j) = p3 (e + j)) → xf_rf_isSame_6 p1 p3 n1 n3 N M (Int32.ofNat d) (Int32.ofNat e) (Int32.ofNat l) (Int32.ofNat 1) (Int32.ofNat i) = some (Int32.ofNat 1)) ∧
    ((∃ j, i ≤ j ∧ j < l ∧ p1 (d + j) ≠ p3 (e + j)) → xf_rf_isSame_6 p1 p3 n1 n3 N M (Int32.ofNat d) (Int32.ofNat e) (Int32.ofNat l) (Int32.ofNat 1) (Int32.ofNat i) = some (Int32.ofNat 0)) := by
  intro k
  have ef : (fits .boolean (.int (Int32.ofNat 1)) = true) = True := by decide
  induction k with
  | zero =>
    intro i M hi hM
    obtain ⟨M', rfl⟩ : ∃ M', M = M' + 1 := ⟨M - 1, by omega⟩
    refine ⟨fun _ => ?_, fun ⟨j, j1, j2, _⟩ => by omega⟩
    simp (disch := omega) only [xf_rf_isSame_6_s, wq_ltT, wq_ltF, wq_inT, wq_clamp, wq_eqF, wq_eqm, wq_meq, wq_add, wq_mul, wq_subT, eq_self, Bool.false_eq_true, ↓reduceIte, Option.bind_some, Sum.elim_inl, Sum.elim_inr, ↓wq_f0b, ↓wq_f1b, ↓wq_f2b, ↓wq_r0b, ↓wq_r1b, ↓Option.bind_some, ef]
  | succ k ih =>
    intro i M hi hM
    obtain ⟨M', rfl⟩ : ∃ M', M = M' + 1 := ⟨M - 1, by omega⟩
    obtain ⟨i1, i2⟩ := ih (i + 1) M' (by omega) (by omega)
    by_cases hx : p1 (d + i) = p3 (e + i)
    · have g : xf_rf_isSame_6 p1 p3 n1 n3 N (M' + 1) (Int32.ofNat d) (Int32.ofNat e) (Int32.ofNat l) (Int32.ofNat 1) (Int32.ofNat i) = xf_rf_isSame_6 p1 p3 n1 n3 N M' (Int32.ofNat d) (Int32.ofNat e) (Int32.ofNat l) (Int32.ofNat 1) (Int32.ofNat (i + 1)) := by
        simp (disch := omega) only [xf_rf_isSame_6_s, xf_rf_isSame_38_s, wq_ltT, wq_ltF, wq_inT, wq_clamp, wq_eqF, wq_eqm, wq_meq, wq_add, wq_mul, wq_subT, eq_self, Bool.false_eq_true, ↓reduceIte, Option.bind_some, Sum.elim_inl, Sum.elim_inr, ↓wq_f0b, ↓wq_f1b, ↓wq_f2b, ↓wq_r0b, ↓wq_r1b, ↓Option.bind_some, hx]
      rw [g]
      refine ⟨fun h => i1 (fun j j1 j2 => h j (by omega) j2), fun ⟨j, j1, j2, j3⟩ => i2 ⟨j, ?_, j2, j3⟩⟩
      by_cases ej : j = i
      · rw [ej] at j3
        exact absurd hx j3
      · omega
    · have g : xf_rf_isSame_6 p1 p3 n1 n3 N (M' + 1) (Int32.ofNat d) (Int32.ofNat e) (Int32.ofNat l) (Int32.ofNat 1) (Int32.ofNat i) = some (Int32.ofNat 0) := by
        have g0 := wq_same0 (p1 := p1) (p3 := p3) (n1 := n1) (n3 := n3) (N := N) (d := d) (e := e) (l := l) k (i + 1) M' (by omega) (by omega) (by omega)
        simp (disch := omega) only [xf_rf_isSame_6_s, xf_rf_isSame_37_s, xf_rf_isSame_38_s, wq_ltT, wq_ltF, wq_inT, wq_clamp, wq_eqF, wq_eqm, wq_meq, wq_add, wq_mul, wq_subT, eq_self, Bool.false_eq_true, ↓reduceIte, Option.bind_some, Sum.elim_inl, Sum.elim_inr, ↓wq_f0b, ↓wq_f1b, ↓wq_f2b, ↓wq_r0b, ↓wq_r1b, ↓Option.bind_some, hx, g0]
      exact ⟨fun h => absurd (h i (Nat.le_refl i) (by omega)) hx, fun _ => g⟩
theorem wq_same1 {p1 p3 : Nat → Int32} {n1 n3 N d e l : Nat} (h1 : d + l ≤ n1) (h3 : e + l ≤ n3) (hn1 : n1 < 1000000) (hn3 : n3 < 1000000) (hN : l < N) (h : ∀ j, j < l → p1 (d + j) = p3 (e + j)) : xf_rf_isSame p1 p3 n1 n3 N (Int32.ofNat d) (Int32.ofNat e) (Int32.ofNat l) = some (Int32.ofNat 1) := by
  rw [xf_rf_isSame_s]
  exact (wq_sameL h1 h3 hn1 hn3 l 0 N (by omega) (by omega)).1 (fun j _ hj => h j hj)
theorem wq_same2 {p1 p3 : Nat → Int32} {n1 n3 N d e l : Nat} (h1 : d + l ≤ n1) (h3 : e + l ≤ n3) (hn1 : n1 < 1000000) (hn3 : n3 < 1000000) (hN : l < N) (h : ¬ ∀ j, j < l → p1 (d + j) = p3 (e + j)) : xf_rf_isSame p1 p3 n1 n3 N (Int32.ofNat d) (Int32.ofNat e) (Int32.ofNat l) = some (Int32.ofNat 0) := by
  rw [xf_rf_isSame_s]
  refine (wq_sameL h1 h3 hn1 hn3 l 0 N (by omega) (by omega)).2 ?_
  apply Classical.byContradiction
  intro hc
  apply h
  intro j hj
  apply Classical.byContradiction
  intro hne
  exact hc ⟨j, by omega, hj, hne⟩
/-- the kind that has a name -/
theorem wq_kdfind {T N : Nat} {name : Nat → Int64} (hT : T ≤ 12) (hN : 41 ≤ N) (w : Int64) : xf_kd_find name (Int32.ofNat T) N w = some (wq_or (fun i => i) (wq_lst (fun i => decide (name i = w)) T 0)) := by
  rw [xf_kd_find_s]
  suffices h : ∀ k p M, p + k = T → k < M → xf_kd_find_2 name (Int32.ofNat T) N M w (Int32.ofNat p) = some (wq_or (fun i => i) (wq_lst (fun i => decide (name i = w)) k p)) from h T 0 N (by omega) (by omega)
  intro k
  induction k with
  | zero =>
    intro p M hp hM
    obtain ⟨M', rfl⟩ : ∃ M', M = M' + 1 := ⟨M - 1, by omega⟩
    simp (disch := omega) only [xf_kd_find_2_s, wq_ltT, wq_ltF, wq_inT, wq_clamp, wq_eqF, wq_eqm, wq_meq, wq_add, wq_mul, wq_subT, eq_self, Bool.false_eq_true, ↓reduceIte, Option.bind_some, Sum.elim_inl, Sum.elim_inr, ↓wq_f0b, ↓wq_f1b, ↓wq_f2b, ↓wq_r0b, ↓wq_r1b, ↓Option.bind_some, wq_lst, wq_or]
  | succ k ih =>
    intro p M hp hM
    obtain ⟨M', rfl⟩ : ∃ M', M = M' + 1 := ⟨M - 1, by omega⟩
    have e := ih (p + 1) M' (by omega) (by omega)
    by_cases hx : name p = w
    · simp (disch := omega) only [xf_kd_find_2_s, wq_ltT, wq_ltF, wq_inT, wq_clamp, wq_eqF, wq_eqm, wq_meq, wq_add, wq_mul, wq_subT, eq_self, Bool.false_eq_true, ↓reduceIte, Option.bind_some, Sum.elim_inl, Sum.elim_inr, ↓wq_f0b, ↓wq_f1b, ↓wq_f2b, ↓wq_r0b, ↓wq_r1b, ↓Option.bind_some, wq_cmp0, hx, wq_lst, wq_or, decide_true]
    · simp (disch := omega) only [xf_kd_find_2_s, wq_ltT, wq_ltF, wq_inT, wq_clamp, wq_eqF, wq_eqm, wq_meq, wq_add, wq_mul, wq_subT, eq_self, Bool.false_eq_true, ↓reduceIte, Option.bind_some, Sum.elim_inl, Sum.elim_inr, ↓wq_f0b, ↓wq_f1b, ↓wq_f2b, ↓wq_r0b, ↓wq_r1b, ↓Option.bind_some, wq_cmp0, hx, wq_lst, e, decide_false, Bool.false_eq_true]
theorem wq_kindOf {T N p m : Nat} {y w : Nat → Nat} {total : Int32} {name : Nat → Int64} {size sort may kinds kletters knames kparts ksorts kmay letters names : Nat → Int32} (hK : wi_K T y w total name size sort may kinds kletters knames kparts ksorts kmay) (hN : 41 ≤ N) (hp : p < 40) (hm : m ≤ 8) (hl : letters p = Int32.ofNat m) (hs : ∀ i, i < m → ∃ k, 65 ≤ k ∧ k ≤ 90 ∧ names (8 * p + i) = Int32.ofNat k) :
    xf_rf_kindOf kletters knames kinds letters names N (Int32.ofNat p) = some (wq_or (fun i => i) (wq_lst (fun i => decide (name i = wq_pack names (8 * p) m)) T 0)) := by
  obtain ⟨⟨k1, k2, k3⟩, k4, _⟩ := hK
  rw [xf_rf_kindOf_s]
  suffices h : ∀ k q M, q + k = T → k < M → xf_rf_kindOf_2 kletters knames kinds letters names N M (Int32.ofNat p) (Int32.ofNat q) = some (wq_or (fun i => i) (wq_lst (fun i => decide (name i = wq_pack names (8 * p) m)) k q)) from h T 0 N (by omega) (by omega)
  intro k
  induction k with
  | zero =>
    intro q M hq hM
    obtain ⟨M', rfl⟩ : ∃ M', M = M' + 1 := ⟨M - 1, by omega⟩
    simp (disch := omega) only [xf_rf_kindOf_2_s, wq_ltT, wq_ltF, wq_inT, wq_clamp, wq_eqF, wq_eqm, wq_meq, wq_add, wq_mul, wq_subT, eq_self, Bool.false_eq_true, ↓reduceIte, Option.bind_some, Sum.elim_inl, Sum.elim_inr, ↓wq_f0b, ↓wq_f1b, ↓wq_f2b, ↓wq_r0b, ↓wq_r1b, ↓Option.bind_some, k3, wq_lst, wq_or]
  | succ k ih =>
    intro q M hq hM
    obtain ⟨M', rfl⟩ : ∃ M', M = M' + 1 := ⟨M - 1, by omega⟩
    have e := ih (q + 1) M' (by omega) (by omega)
    obtain ⟨h1, h2, h3, h4, h5⟩ := k4 q (by omega)
    have h6 := wq_pack_eq (f := knames) (f' := names) (b := 8 * q) (b' := 8 * p) h3 hm h5 hs
    by_cases hy : y q = m
    · by_cases hall : ∀ i, i < m → knames (8 * q + i) = names (8 * p + i)
      · have hx : name q = wq_pack names (8 * p) m := by
          rw [h4, h6]
          exact ⟨hy, fun i hi => hall i (by omega)⟩
        have g := wq_same1 (p1 := knames) (p3 := names) (n1 := 192) (n3 := 960) (N := N) (d := 8 * q) (e := 8 * p) (l := m) (by omega) (by omega) (by omega) (by omega) (by omega) hall
        simp (disch := omega) only [xf_rf_kindOf_2_s, xf_rf_kindOf_57_s, wq_ltT, wq_ltF, wq_inT, wq_clamp, wq_eqF, wq_eqm, wq_meq, wq_add, wq_mul, wq_subT, eq_self, Bool.false_eq_true, ↓reduceIte, Option.bind_some, Sum.elim_inl, Sum.elim_inr, ↓wq_f0b, ↓wq_f1b, ↓wq_f2b, ↓wq_r0b, ↓wq_r1b, ↓Option.bind_some, k3, hl, h1, hy, g, hx, wq_lst, wq_or, decide_true]
      · have hx : ¬ name q = wq_pack names (8 * p) m := by
          rw [h4, h6]
          rintro ⟨_, h7⟩
          exact hall (fun i hi => h7 i (by omega))
        have g := wq_same2 (p1 := knames) (p3 := names) (n1 := 192) (n3 := 960) (N := N) (d := 8 * q) (e := 8 * p) (l := m) (by omega) (by omega) (by omega) (by omega) (by omega) hall
        simp (disch := omega) only [xf_rf_kindOf_2_s, xf_rf_kindOf_57_s, wq_ltT, wq_ltF, wq_inT, wq_clamp, wq_eqF, wq_eqm, wq_meq, wq_add, wq_mul, wq_subT, eq_self, Bool.false_eq_true, ↓reduceIte, Option.bind_some, Sum.elim_inl, Sum.elim_inr, ↓wq_f0b, ↓wq_f1b, ↓wq_f2b, ↓wq_r0b, ↓wq_r1b, ↓Option.bind_some, k3, hl, h1, hy, g, hx, wq_lst, e, decide_false, Bool.false_eq_true]
    · have hx : ¬ name q = wq_pack names (8 * p) m := by
        rw [h4, h6]
        rintro ⟨h7, _⟩
        exact hy h7
      simp (disch := omega) only [xf_rf_kindOf_2_s, xf_rf_kindOf_57_s, wq_ltT, wq_ltF, wq_inT, wq_clamp, wq_eqF, wq_eqm, wq_meq, wq_add, wq_mul, wq_subT, eq_self, Bool.false_eq_true, ↓reduceIte, Option.bind_some, Sum.elim_inl, Sum.elim_inr, ↓wq_f0b, ↓wq_f1b, ↓wq_f2b, ↓wq_r0b, ↓wq_r1b, ↓Option.bind_some, k3, hl, h1, hx, wq_lst, e, decide_false, Bool.false_eq_true]
