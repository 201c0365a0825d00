/-! BITS OF A LONG. -/
theorem wq_sh64 : ∀ k : Fin 64, (((Int32.ofNat k.1).toInt64 &&& 63).toBitVec.smod 64#64) = BitVec.ofNat 64 k.1 := by decide +kernel
theorem wq_ush64 : ∀ k : Fin 64, (((Int32.ofNat k.1).toInt64.toUInt64 &&& Int64.toUInt64 63) % 64).toBitVec = BitVec.ofNat 64 k.1 := by decide +kernel
theorem wq_shl {k : Nat} (h : k < 64) (x : Int64) : (xe_shl x (Int32.ofNat k)).toBitVec = x.toBitVec <<< k := by
  have e : (xe_shl x (Int32.ofNat k)).toBitVec = x.toBitVec <<< (((Int32.ofNat k).toInt64 &&& 63).toBitVec.smod 64#64) := rfl
  have e2 : (((Int32.ofNat k).toInt64 &&& 63).toBitVec.smod 64#64) = BitVec.ofNat 64 k := wq_sh64 ⟨k, h⟩
  rw [e, e2, BitVec.shiftLeft_eq', BitVec.toNat_ofNat, Nat.mod_eq_of_lt (by omega)]
theorem wq_shr {k : Nat} (h : k < 64) (x : Int64) : (xe_shr x (Int32.ofNat k)).toBitVec = x.toBitVec.sshiftRight k := by
  have e : (xe_shr x (Int32.ofNat k)).toBitVec = x.toBitVec.sshiftRight' (((Int32.ofNat k).toInt64 &&& 63).toBitVec.smod 64#64) := rfl
  have e2 : (((Int32.ofNat k).toInt64 &&& 63).toBitVec.smod 64#64) = BitVec.ofNat 64 k := wq_sh64 ⟨k, h⟩
  rw [e, e2, BitVec.sshiftRight_eq', BitVec.toNat_ofNat, Nat.mod_eq_of_lt (by omega)]
theorem wq_ushr {k : Nat} (h : k < 64) (x : Int64) : (xe_ushr x (Int32.ofNat k)).toBitVec = x.toBitVec >>> k := by
  have e : (xe_ushr x (Int32.ofNat k)).toBitVec = x.toBitVec >>> (((Int32.ofNat k).toInt64.toUInt64 &&& Int64.toUInt64 63) % 64).toBitVec := rfl
  have e2 : (((Int32.ofNat k).toInt64.toUInt64 &&& Int64.toUInt64 63) % 64).toBitVec = BitVec.ofNat 64 k := wq_ush64 ⟨k, h⟩
  rw [e, e2, BitVec.ushiftRight_eq', BitVec.toNat_ofNat, Nat.mod_eq_of_lt (by omega)]
theorem wq_bit_or (x y : Int64) (j : Nat) : wq_bit (x ||| y) j = (wq_bit x j || wq_bit y j) := by
  unfold wq_bit
  rw [Int64.toBitVec_or, BitVec.getLsbD_or]
theorem wq_bit_and (x y : Int64) (j : Nat) : wq_bit (x &&& y) j = (wq_bit x j && wq_bit y j) := by
  unfold wq_bit
  rw [Int64.toBitVec_and, BitVec.getLsbD_and]
theorem wq_bit0 (j : Nat) : wq_bit 0 j = false := by
  unfold wq_bit
  exact BitVec.getLsbD_zero
theorem wq_bit1 {k j : Nat} (hk : k < 64) (hj : j < 64) : wq_bit (xe_shl (1 : Int64) (Int32.ofNat k)) j = decide (j = k) := by
  unfold wq_bit
  rw [wq_shl hk, BitVec.getLsbD_shiftLeft]
  have e : (1 : Int64).toBitVec = 1#64 := rfl
  rw [e, BitVec.getLsbD_one]
  by_cases h : j = k
  · subst h
    simp [hj]
  · by_cases h2 : j < k
    · simp [h, h2]
    · have h3 : ¬ j - k = 0 := by omega
      simp [h, h3]
theorem wq_bv1 (b : BitVec 64) : (b &&& 1#64 = 0#64) ↔ b.getLsbD 0 = false := by
  constructor
  · intro h
    have h1 := congrArg (fun x : BitVec 64 => x.getLsbD 0) h
    simp at h1
    exact h1
  · intro h
    apply BitVec.eq_of_getLsbD_eq
    intro i hi
    rw [BitVec.getLsbD_and, BitVec.getLsbD_one, BitVec.getLsbD_zero]
    by_cases h0 : i = 0
    · subst h0
      rw [h]
      rfl
    · simp [h0]
theorem wq_bv1' (b : BitVec 64) : (b &&& 1#64 = 1#64) ↔ b.getLsbD 0 = true := by
  constructor
  · intro h
    have h1 := congrArg (fun x : BitVec 64 => x.getLsbD 0) h
    simp at h1
    exact h1
  · intro h
    apply BitVec.eq_of_getLsbD_eq
    intro i hi
    rw [BitVec.getLsbD_and, BitVec.getLsbD_one]
    by_cases h0 : i = 0
    · subst h0
      rw [h]
      rfl
    · simp [h0]
theorem wq_tu {k : Nat} (hk : k < 64) (x : Int64) : (((xe_ushr x (Int32.ofNat k)) &&& (1 : Int64)) = (0 : Int64)) = (wq_bit x k = false) := by
  apply propext
  rw [← Int64.toBitVec_inj, Int64.toBitVec_and, wq_ushr hk]
  have e : (1 : Int64).toBitVec = 1#64 := rfl
  have e0 : (0 : Int64).toBitVec = 0#64 := rfl
  rw [e, e0, wq_bv1, BitVec.getLsbD_ushiftRight]
  rfl
theorem wq_ts {k : Nat} (hk : k < 64) (x : Int64) : (((xe_shr x (Int32.ofNat k)) &&& (1 : Int64)) = (0 : Int64)) = (wq_bit x k = false) := by
  apply propext
  rw [← Int64.toBitVec_inj, Int64.toBitVec_and, wq_shr hk]
  have e : (1 : Int64).toBitVec = 1#64 := rfl
  have e0 : (0 : Int64).toBitVec = 0#64 := rfl
  rw [e, e0, wq_bv1, BitVec.getLsbD_sshiftRight]
  unfold wq_bit
  simp [hk]
theorem wq_ts1 {k : Nat} (hk : k < 64) (x : Int64) : (((xe_shr x (Int32.ofNat k)) &&& (1 : Int64)) = (1 : Int64)) = (wq_bit x k = true) := by
  apply propext
  rw [← Int64.toBitVec_inj, Int64.toBitVec_and, wq_shr hk]
  have e : (1 : Int64).toBitVec = 1#64 := rfl
  rw [e, wq_bv1', BitVec.getLsbD_sshiftRight]
  unfold wq_bit
  simp [hk]
theorem wq_lupd {w : Nat → Int64} {p : Nat} {x y : Int64} : vp_updL (vp_updL w p x) p y = vp_updL w p y := by
  funext j
  show (if j = p then y else (if j = p then x else w j)) = (if j = p then y else w j)
  by_cases h : j = p
  · rw [if_pos h, if_pos h]
  · rw [if_neg h, if_neg h, if_neg h]
theorem wq_lupd1 {w : Nat → Int64} {p : Nat} {x : Int64} : vp_updL w p x p = x := if_pos rfl
theorem wq_lupd2 {w : Nat → Int64} {p j : Nat} {x : Int64} (h : j ≠ p) : vp_updL w p x j = w j := if_neg h
theorem wq_m1 {k : Nat} (h0 : k ≠ 0) (h1 : k < 2147483648) : Int32.ofNat k + (-1 : Int32) = Int32.ofNat (k - 1) := by
  have e : (-1 : Int32) = - Int32.ofNat 1 := by decide
  rw [e, ← Int32.sub_eq_add_neg, wq_subT (by omega) h1]
