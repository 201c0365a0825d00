theorem wp_b255 : ∀ i : Fin 32, ¬ i.1 < 8 → (255#32)[i.1] = false := by decide
theorem wp_byte1 (x : BitVec 64) (k : Nat) (hk : k ≤ 56) (i : Nat) (hi : i < 32) : ((BitVec.signExtend 32 (x >>> k))[i] && (255#32)[i]) = ((BitVec.signExtend 32 (x.sshiftRight k))[i] && (255#32)[i]) := by
  by_cases h8 : i < 8
  · congr 1
    rw [BitVec.getElem_signExtend, BitVec.getElem_signExtend]
    have h1 : i < 64 := by omega
    simp [h1, BitVec.getElem_sshiftRight, show k + i < 64 by omega]
  · rw [wp_b255 ⟨i, hi⟩ h8, Bool.and_false, Bool.and_false]
theorem wp_byte (v : Int64) {s : Int32} (h : s ∈ [(56 : Int32), 48, 40, 32, 24, 16, 8, 0]) : ((xe_ushr v s).toInt32 &&& (255 : Int32)) = ((xe_shr v s) &&& (255 : Int64)).toInt32 := by
  apply Int32.toBitVec_inj.mp
  simp only [List.mem_cons, List.not_mem_nil, or_false] at h
  rcases h with rfl | rfl | rfl | rfl | rfl | rfl | rfl | rfl
  all_goals
    ext i hi
    simp [xe_ushr, xe_shr, BitVec.getElem_and, BitVec.getElem_setWidth]
    try exact wp_byte1 _ _ (by omega) i hi
