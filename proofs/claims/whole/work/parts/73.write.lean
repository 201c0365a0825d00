/-! WRITE: names, arguments, lines. -/
theorem wq_np_byte {g : Nat → Nat} {b : Nat} : ∀ m i, (∀ j, j < m → g (b + j) < 256) → wq_np g b m / 256 ^ i % 256 = if i < m then g (b + (m - 1 - i)) else 0 := by
  intro m
  induction m with
  | zero =>
    intro i _
    rw [wq_np, Nat.zero_div, if_neg (by omega)]
  | succ m ih =>
    intro i h
    have hm := h m (by omega)
    rw [wq_np]
    cases i with
    | zero =>
      rw [Nat.pow_zero, Nat.div_one, if_pos (by omega), show m + 1 - 1 - 0 = m by omega]
      omega
    | succ i =>
      have e : (wq_np g b m * 256 + g (b + m)) / 256 ^ (i + 1) = wq_np g b m / 256 ^ i := by
        rw [Nat.pow_succ, Nat.mul_comm (256 ^ i) 256, ← Nat.div_div_eq_div_mul]
        congr 1
        omega
      rw [e, ih i (fun j hj => h j (by omega))]
      by_cases hi : i < m
      · rw [if_pos hi, if_pos (by omega), show m + 1 - 1 - (i + 1) = m - 1 - i by omega]
      · rw [if_neg hi, if_neg (by omega)]
theorem wq_sx32 (x : BitVec 64) : x.signExtend 32 = x.setWidth 32 := by
  ext i hi
  rw [BitVec.getElem_signExtend]
  simp [show i < 64 by omega]
theorem wq_by_nat (v : Int64) {k : Nat} (hk : k < 64) : wq_by v (Int32.ofNat k) = Int32.ofNat (v.toBitVec.toNat / 2 ^ k % 256) := by
  apply Int32.toBitVec_inj.mp
  apply BitVec.eq_of_toNat_eq
  have e1 : (wq_by v (Int32.ofNat k)).toBitVec = (xe_ushr v (Int32.ofNat k)).toBitVec.signExtend 32 &&& 255#32 := rfl
  rw [e1, wq_sx32, wq_ushr hk, BitVec.toNat_and, BitVec.toNat_setWidth, BitVec.toNat_ushiftRight, wq_bv (by omega)]
  show (v.toBitVec.toNat >>> k % 2 ^ 32) &&& 255 = v.toBitVec.toNat / 2 ^ k % 256
  rw [show (255 : Nat) = 2 ^ 8 - 1 by decide, Nat.and_two_pow_sub_one_eq_mod, Nat.shiftRight_eq_div_pow]
  omega
/-- the bytes of a name -/
theorem wq_name_byte {f : Nat → Int32} {b m r : Nat} (hm : m ≤ 8) (h : ∀ i, i < m → ∃ k, 65 ≤ k ∧ k ≤ 90 ∧ f (b + i) = Int32.ofNat k) (hr : r < 8) : wq_by (wq_pack f b m) (Int32.ofNat (8 * r)) = if r < m then f (b + (m - 1 - r)) else Int32.ofNat 0 := by
  have g256 : ∀ j, j < m → (fun j => (f j).toNatClampNeg) (b + j) < 256 := fun j hj => by
    obtain ⟨k, k1, k2, k3⟩ := h j hj
    show (f (b + j)).toNatClampNeg < 256
    rw [k3, wq_clamp (by omega)]
    omega
  rw [wq_by_nat _ (by omega), wq_packn m hm h, Nat.pow_mul, show (2 : Nat) ^ 8 = 256 by decide, wq_np_byte m r g256]
  by_cases e : r < m
  · rw [if_pos e, if_pos e]
    obtain ⟨k, k1, k2, k3⟩ := h (m - 1 - r) (by omega)
    show Int32.ofNat (f (b + (m - 1 - r))).toNatClampNeg = f (b + (m - 1 - r))
    rw [k3, wq_clamp (by omega)]
  · rw [if_neg e, if_neg e]
theorem wq_m8 {r : Nat} (h : 1 ≤ r) (h2 : r < 8) : Int32.ofNat (8 * r) + (-8 : Int32) = Int32.ofNat (8 * (r - 1)) := by
  have e : (-8 : Int32) = - Int32.ofNat 8 := by decide
  rw [e, ← Int32.sub_eq_add_neg, wq_subT (by omega) (by omega), show 8 * r - 8 = 8 * (r - 1) by omega]
section
variable {items letters lines names numbers parts sorts values : Nat → Int32}
/-- a name, and the sign behind it -/
theorem wr_name {n N : Nat} (hN : 41 ≤ N) (hn : 41 ≤ n) {p m : Nat} (hp : p < 40) (hm : m ≤ 8) (hl : letters p = Int32.ofNat m) (h : ∀ i, i < m → ∃ k, 65 ≤ k ∧ k ≤ 90 ∧ names (8 * p + i) = Int32.ofNat k)
    (k12 : (Nat → Int32) → Int32 → (Nat → Int32) → Int32 → Int32 → Int32 → Option (Int32 × (Nat → Int32) × Int32 × (Nat → Int32) × Int32 × Int32)) (size th : Int32) (text : Nat → Int32) (W : Nat) (full len : Int32) (signs out : Nat → Int32) (wr : Int32) (hR : wr_R W full len signs out wr) (hW : W + 8 ≤ 1000000) :
    ∃ (W' : Nat) (full' len' : Int32) (signs' out' : Nat → Int32) (wr' : Int32), wr_R W' full' len' signs' out' wr' ∧ W' ≤ W + 8 ∧ xf_pg_addBytes n full len signs (wq_pack names (8 * p) m) = some ((), full', len', signs') ∧
      ∃ M, 0 < M ∧ xf_rf_write_46 items letters lines names numbers parts sorts values k12 N N out size text th wr (Int32.ofNat p) (Int32.ofNat 0) = xf_rf_write_46 items letters lines names numbers parts sorts values k12 N M out' size text th wr' (Int32.ofNat p) (Int32.ofNat m) := by
  rw [xf_pg_addBytes_s]
  have last : ∀ M full len signs, xf_pg_addBytes_3 n (M + 1) full len signs (wq_pack names (8 * p) m) (-8) = some ((), full, len, signs) := by
    intro M full len signs
    rw [xf_pg_addBytes_3_s, if_pos (by decide)]
  -- r bytes are left, the letters from m - r on
  have loop : ∀ r, r ≤ 8 → ∀ (W : Nat) (full len : Int32) (signs out : Nat → Int32) (wr : Int32) (M K : Nat), wr_R W full len signs out wr → W + r ≤ 1000000 → r < M → r < K →
      ∃ (W' : Nat) (full' len' : Int32) (signs' out' : Nat → Int32) (wr' : Int32), wr_R W' full' len' signs' out' wr' ∧ W' ≤ W + r ∧ xf_pg_addBytes_3 n M full len signs (wq_pack names (8 * p) m) (if r = 0 then -8 else Int32.ofNat (8 * (r - 1))) = some ((), full', len', signs') ∧
        ∃ K', 0 < K' ∧ xf_rf_write_46 items letters lines names numbers parts sorts values k12 N K out size text th wr (Int32.ofNat p) (Int32.ofNat (if r < m then m - r else 0)) = xf_rf_write_46 items letters lines names numbers parts sorts values k12 N K' out' size text th wr' (Int32.ofNat p) (Int32.ofNat m) := by
    intro r
    induction r with
    | zero =>
      intro _ W full len signs out wr M K hR hW hM hK
      obtain ⟨M', rfl⟩ : ∃ M', M = M' + 1 := ⟨M - 1, by omega⟩
      refine ⟨W, full, len, signs, out, wr, hR, by omega, ?_, K, hK, ?_⟩
      · rw [if_pos rfl]
        exact last _ _ _ _
      · by_cases m0 : 0 < m
        · rw [if_pos m0, Nat.sub_zero]
        · have : m = 0 := by omega
          subst this
          rw [if_neg (by omega)]
    | succ r ih =>
      intro hr W full len signs out wr M K hR hW hM hK
      obtain ⟨M', rfl⟩ : ∃ M', M = M' + 1 := ⟨M - 1, by omega⟩
      have hb := wq_name_byte (f := names) (b := 8 * p) (m := m) (r := r) hm h (by omega)
      have e0 : xf_xt_byteOf (wq_pack names (8 * p) m) (Int32.ofNat (8 * r)) = some (wq_by (wq_pack names (8 * p) m) (Int32.ofNat (8 * r))) := rfl
      have nx : Int32.ofNat (8 * r) + (-8 : Int32) = if r = 0 then -8 else Int32.ofNat (8 * (r - 1)) := by
        by_cases r0 : r = 0
        · subst r0
          rw [if_pos rfl]
          decide
        · rw [if_neg r0]
          exact wq_m8 (by omega) (by omega)
      have neg : (Int32.ofNat (8 * r) < Int32.ofNat 0) = False := wq_ltF (by omega) (by omega)
      rw [if_neg (by omega : ¬ r + 1 = 0), show r + 1 - 1 = r by omega]
      by_cases hrm : r < m
      · rw [if_pos hrm] at hb
        obtain ⟨k, k1, k2, k3⟩ := h (m - 1 - r) (by omega)
        rw [k3] at hb
        obtain ⟨W', full', len', signs', out', wr', p1, p2, p3, p4⟩ := wr_put (k := k) (by omega) (by omega) W full len signs out wr hR (by omega)
        obtain ⟨K1, rfl⟩ : ∃ K1, K = K1 + 1 := ⟨K - 1, by omega⟩
        obtain ⟨W2, full2, len2, signs2, out2, wr2, q1, q2, q3, K', q4, q5⟩ := ih (by omega) W' full' len' signs' out' wr' M' K1 p1 (by omega) (by omega) (by omega)
        have p3' : xf_pg_add full len signs (Int32.ofNat k) = some ((), full', len', signs') := p3
        have p4' : xf_rf_put out wr (Int32.ofNat k) = some ((), out', wr') := p4
        refine ⟨W2, full2, len2, signs2, out2, wr2, q1, by omega, ?_, K', q4, ?_⟩
        · rw [← q3, xf_pg_addBytes_3_s, if_neg (by rw [neg]; exact id), e0, Option.bind_some, hb]
          simp (disch := omega) only [↓xf_pg_addBytes_26_s, wq_ltT, wq_ltF, wq_inT, wq_clamp, wq_eqF, wq_eqm, wq_meq, wq_add, wq_mul, wq_subT, eq_self, Bool.false_eq_true, ↓reduceIte, Option.bind_some, Sum.elim_inl, Sum.elim_inr, ↓wq_f0b, ↓wq_f1b, ↓wq_f2b, ↓wq_r0b, ↓wq_r1b, ↓Option.bind_some, wq_i2c, ↓wq_b p3', nx]
        · rw [← q5, xf_rf_write_46_s]
          have ix : (if r + 1 < m then m - (r + 1) else 0) = m - 1 - r := by
            by_cases e : r + 1 < m
            · rw [if_pos e]
              omega
            · rw [if_neg e]
              omega
          have ix2 : (if r < m then m - r else 0) = m - 1 - r + 1 := by
            rw [if_pos hrm]
            omega
          rw [ix, ix2]
          simp (disch := omega) only [wq_ltT, wq_ltF, wq_inT, wq_clamp, wq_eqF, wq_eqm, wq_meq, wq_add, wq_mul, wq_subT, eq_self, Bool.false_eq_true, ↓reduceIte, Option.bind_some, Sum.elim_inl, Sum.elim_inr, ↓wq_f0b, ↓wq_f1b, ↓wq_f2b, ↓wq_r0b, ↓wq_r1b, ↓Option.bind_some, hl, k3, ↓wq_b p4']
      · rw [if_neg hrm] at hb
        obtain ⟨W2, full2, len2, signs2, out2, wr2, q1, q2, q3, K', q4, q5⟩ := ih (by omega) W full len signs out wr M' K hR (by omega) (by omega) (by omega)
        refine ⟨W2, full2, len2, signs2, out2, wr2, q1, by omega, ?_, K', q4, ?_⟩
        · rw [← q3, xf_pg_addBytes_3_s, if_neg (by rw [neg]; exact id), e0, Option.bind_some, hb]
          simp (disch := omega) only [↓xf_pg_addBytes_26_s, wq_ltT, wq_ltF, wq_inT, wq_clamp, wq_eqF, wq_eqm, wq_meq, wq_add, wq_mul, wq_subT, eq_self, Bool.false_eq_true, ↓reduceIte, Option.bind_some, Sum.elim_inl, Sum.elim_inr, ↓wq_f0b, ↓wq_f1b, ↓wq_f2b, ↓wq_r0b, ↓wq_r1b, ↓Option.bind_some, nx]
        · rw [← q5, if_neg (by omega), if_neg (by omega)]
  obtain ⟨W', full', len', signs', out', wr', q1, q2, q3, K', q4, q5⟩ := loop 8 (Nat.le_refl 8) W full len signs out wr n N hR hW (by omega) (by omega)
  refine ⟨W', full', len', signs', out', wr', q1, q2, ?_, K', q4, ?_⟩
  · rw [if_neg (by omega), show 8 * (8 - 1) = 56 by decide] at q3
    exact q3
  · by_cases e : 8 < m
    · omega
    · rw [if_neg e] at q5
      exact q5
end
