/-! SAY, TRIM, CHARAT. -/
theorem wq_bv {k : Nat} (h : k < 2147483648) : (Int32.ofNat k).toBitVec.toNat = k := by
  show (BitVec.ofNat 32 k).toNat = k
  rw [BitVec.toNat_ofNat]
  exact Nat.mod_eq_of_lt (by omega)
theorem wq_i2c {k : Nat} (h : k < 65536) : xe_i2c (Int32.ofNat k) = Int32.ofNat k := by
  apply Int32.toBitVec_inj.mp
  apply BitVec.eq_of_toNat_eq
  show ((Int32.ofNat k).toBitVec % 65536#32).toNat = (Int32.ofNat k).toBitVec.toNat
  rw [BitVec.toNat_umod, wq_bv (by omega)]
  exact Nat.mod_eq_of_lt h
theorem wq_nar {k : Nat} (h : k < 65536) : vp_nar .char (Int32.ofNat k) = Int32.ofNat k := by
  apply Int32.toBitVec_inj.mp
  apply BitVec.eq_of_toNat_eq
  show (((Int32.ofNat k).toBitVec.setWidth 16).setWidth 32).toNat = (Int32.ofNat k).toBitVec.toNat
  rw [BitVec.toNat_setWidth, BitVec.toNat_setWidth, wq_bv (by omega)]
  omega
/-- the shifts from the one at s on -/
def wq_ch : List Int32 → Int32 → Prop
  | [], s => s < Int32.ofNat 0
  | x :: l, s => s = x ∧ ¬ x < Int32.ofNat 0 ∧ x ∈ [(56 : Int32), 48, 40, 32, 24, 16, 8, 0] ∧ wq_ch l (x + (-8 : Int32))
theorem wq_ch0 : wq_ch [(56 : Int32), 48, 40, 32, 24, 16, 8, 0] (Int32.ofNat 56) := by
  refine ⟨by decide, by decide, by decide, by decide, by decide, by decide, by decide, by decide, by decide, by decide, by decide, by decide, by decide, by decide, by decide, by decide, by decide, by decide, by decide, by decide, by decide, by decide, by decide, by decide, ?_⟩
  show (0 : Int32) + (-8 : Int32) < Int32.ofNat 0
  decide
def wq_by (v : Int64) (x : Int32) : Int32 := ((xe_ushr v x).toInt32) &&& (Int32.ofNat 255)
def wq_good (v : Int64) (x : Int32) : Bool := decide (wq_by v x = Int32.ofNat 0) || (!decide (wq_by v x < Int32.ofNat 32) && !decide (Int32.ofNat 126 < wq_by v x))
def wq_num (v : Int64) : List Int32 → Nat
  | [] => 0
  | x :: l => wq_num v l + (if wq_by v x = Int32.ofNat 0 then 0 else 1)
theorem wq_num_le (v : Int64) : ∀ l, wq_num v l ≤ l.length := by
  intro l
  induction l with
  | nil => exact Nat.le_refl 0
  | cons x l ih =>
    unfold wq_num
    rw [List.length_cons]
    split <;> omega
theorem wq_goodc (v : Int64) (x : Int32) : (wq_good v x = true ∧ (wq_by v x = Int32.ofNat 0 ∨ ∃ k, 32 ≤ k ∧ k ≤ 126 ∧ wq_by v x = Int32.ofNat k)) ∨ (wq_good v x = false ∧ ¬ wq_by v x = Int32.ofNat 0 ∧ (wq_by v x < Int32.ofNat 32 ∨ (¬ wq_by v x < Int32.ofNat 32 ∧ Int32.ofNat 126 < wq_by v x))) := by
  unfold wq_good
  by_cases h0 : wq_by v x = Int32.ofNat 0
  · exact Or.inl ⟨by rw [decide_eq_true h0]; rfl, Or.inl h0⟩
  · by_cases h1 : wq_by v x < Int32.ofNat 32
    · exact Or.inr ⟨by rw [decide_eq_false h0, decide_eq_true h1]; rfl, h0, Or.inl h1⟩
    · by_cases h2 : Int32.ofNat 126 < wq_by v x
      · exact Or.inr ⟨by rw [decide_eq_false h0, decide_eq_false h1, decide_eq_true h2]; rfl, h0, Or.inr ⟨h1, h2⟩⟩
      · exact Or.inl ⟨by rw [decide_eq_false h0, decide_eq_false h1, decide_eq_false h2]; rfl, Or.inr (wq_btw (by omega) (by omega) h1 h2)⟩
theorem wq_csay (n : Nat) (full len : Int32) (signs : Nat → Int32) (v : Int64) : ∀ (l : List Int32) (s : Int32) (c N : Nat), wq_ch l s → l.length < N →
    xf_xt_say_6 n N full len signs v (Int32.ofNat c) s = if l.all (wq_good v) = true then (if Int32.ofNat 1200 < len + Int32.ofNat (c + wq_num v l) then some (.inr "java/lang/IllegalStateException", full, len, signs) else (xf_pg_addBytes n full len signs v).bind fun q => some (.inl q.2.2.1, q.2.1, q.2.2.1, q.2.2.2)) else some (.inr "java/lang/IllegalArgumentException", full, len, signs) := by
  intro l
  induction l with
  | nil =>
    intro s c N hs hN
    obtain ⟨N', rfl⟩ : ∃ N', N = N' + 1 := ⟨N - 1, by rw [List.length_nil] at hN; omega⟩
    have hs' : s < Int32.ofNat 0 := hs
    rw [xf_xt_say_6_s, if_pos hs', List.all_nil, if_pos rfl]
    rfl
  | cons x l ih =>
    intro s c N hs hN
    rw [List.length_cons] at hN
    obtain ⟨N', rfl⟩ : ∃ N', N = N' + 1 := ⟨N - 1, by omega⟩
    obtain ⟨rfl, h1, h2, h3⟩ := hs
    have e0 : xf_xt_byteOf v s = some (wq_by v s) := rfl
    rw [xf_xt_say_6_s, if_neg h1, e0, Option.bind_some, List.all_cons]
    rcases wq_goodc v s with ⟨g1, g2 | ⟨k, g3, g4, g5⟩⟩ | ⟨g1, g2, g3 | ⟨g3, g4⟩⟩
    · rw [if_pos g2, xf_xt_say_48_s, if_pos g2, xf_xt_say_59_s, wq_add, ih _ _ _ h3 (by omega), g1, Bool.true_and]
      have e1 : wq_num v (s :: l) = wq_num v l := by
        rw [wq_num, if_pos g2, Nat.add_zero]
      rw [e1, Nat.add_zero]
    · have g6 : ¬ wq_by v s = Int32.ofNat 0 := by
        rw [g5]
        exact fun e => (wq_eqF (by omega) (by omega) (by omega)).mp e
      have e1 : wq_num v (s :: l) = wq_num v l + 1 := by
        rw [wq_num, if_neg g6]
      have e2 : ¬ wq_by v s < Int32.ofNat 32 := by
        rw [g5]
        exact fun e => (wq_ltF (by omega) (by omega)).mp e
      have e3 : ¬ Int32.ofNat 126 < wq_by v s := by
        rw [g5]
        exact fun e => (wq_ltF (by omega) (by omega)).mp e
      rw [if_neg g6, if_neg e2, if_neg e3, xf_xt_say_48_s, if_neg g6, xf_xt_say_59_s, wq_add, ih _ _ _ h3 (by omega), g1, Bool.true_and, e1, Nat.add_assoc, Nat.add_comm 1]
    · rw [if_neg g2, if_pos g3, g1, Bool.false_and]
      rfl
    · rw [if_neg g2, if_neg g3, if_pos g4, g1, Bool.false_and]
      rfl
theorem wq_rby (v : Int64) {x : Int32} (h : x ∈ [(56 : Int32), 48, 40, 32, 24, 16, 8, 0]) : ((xe_shr v x) &&& (255 : Int64)).toInt32 = wq_by v x := (wp_byte v h).symm
theorem wq_rsay0 (n : Nat) (size th : Int32) (text : Nat → Int32) (v : Int64) : ∀ (l : List Int32) (s : Int32) (c N : Nat), wq_ch l s → l.length < N →
    xf_rf_say_14 n N size text th v (Int32.ofNat c) (Int32.ofNat 0) s = xf_rf_say_91 n size text th v (Int32.ofNat (c + wq_num v l)) (Int32.ofNat 1) := by
  intro l
  induction l with
  | nil =>
    intro s c N hs hN
    obtain ⟨N', rfl⟩ : ∃ N', N = N' + 1 := ⟨N - 1, by rw [List.length_nil] at hN; omega⟩
    have hs' : s < Int32.ofNat 0 := hs
    rw [xf_rf_say_14_s, if_pos hs', if_pos rfl]
    rfl
  | cons x l ih =>
    intro s c N hs hN
    rw [List.length_cons] at hN
    obtain ⟨N', rfl⟩ : ∃ N', N = N' + 1 := ⟨N - 1, by omega⟩
    obtain ⟨rfl, h1, h2, h3⟩ := hs
    rw [xf_rf_say_14_s, if_neg h1, if_pos rfl, wq_rby v h2, xf_rf_say_58_s, xf_rf_say_59_s]
    by_cases g2 : wq_by v s = Int32.ofNat 0
    · have e1 : wq_num v (s :: l) = wq_num v l := by
        rw [wq_num, if_pos g2, Nat.add_zero]
      rw [if_pos g2, xf_rf_say_72_s, wq_add, ih _ _ _ h3 (by omega), e1, Nat.add_zero]
    · have e1 : wq_num v (s :: l) = wq_num v l + 1 := by
        rw [wq_num, if_neg g2]
      rw [if_neg g2, xf_rf_say_72_s, wq_add, ih _ _ _ h3 (by omega), e1, Nat.add_assoc, Nat.add_comm 1]
theorem wq_rsay1 (n : Nat) (size th : Int32) (text : Nat → Int32) (v : Int64) : ∀ (l : List Int32) (s : Int32) (c N : Nat), wq_ch l s → l.length < N →
    xf_rf_say_14 n N size text th v (Int32.ofNat c) (Int32.ofNat 1) s = xf_rf_say_91 n size text th v (Int32.ofNat (c + wq_num v l)) (if l.all (wq_good v) = true then Int32.ofNat 0 else Int32.ofNat 1) := by
  intro l
  have e10 : ¬ Int32.ofNat 1 = Int32.ofNat 0 := by decide
  induction l with
  | nil =>
    intro s c N hs hN
    obtain ⟨N', rfl⟩ : ∃ N', N = N' + 1 := ⟨N - 1, by rw [List.length_nil] at hN; omega⟩
    have hs' : s < Int32.ofNat 0 := hs
    rw [xf_rf_say_14_s, if_pos hs', if_neg e10]
    rfl
  | cons x l ih =>
    intro s c N hs hN
    rw [List.length_cons] at hN
    obtain ⟨N', rfl⟩ : ∃ N', N = N' + 1 := ⟨N - 1, by omega⟩
    obtain ⟨rfl, h1, h2, h3⟩ := hs
    rw [xf_rf_say_14_s, if_neg h1, if_neg e10, wq_rby v h2, List.all_cons]
    rcases wq_goodc v s with ⟨g1, g2 | ⟨k, g3, g4, g5⟩⟩ | ⟨g1, g2, g3⟩
    · have e1 : wq_num v (s :: l) = wq_num v l := by
        rw [wq_num, if_pos g2, Nat.add_zero]
      rw [if_pos g2, xf_rf_say_54_s, xf_rf_say_59_s, if_pos g2, xf_rf_say_72_s, wq_add, ih _ _ _ h3 (by omega), e1, Nat.add_zero, g1, Bool.true_and]
    · have g6 : ¬ wq_by v s = Int32.ofNat 0 := by
        rw [g5]
        exact fun e => (wq_eqF (by omega) (by omega) (by omega)).mp e
      have e1 : wq_num v (s :: l) = wq_num v l + 1 := by
        rw [wq_num, if_neg g6]
      have e2 : ¬ wq_by v s < Int32.ofNat 32 := by
        rw [g5]
        exact fun e => (wq_ltF (by omega) (by omega)).mp e
      have e3 : ¬ Int32.ofNat 126 < wq_by v s := by
        rw [g5]
        exact fun e => (wq_ltF (by omega) (by omega)).mp e
      rw [if_neg g6, if_neg e2, if_neg e3, xf_rf_say_54_s, xf_rf_say_59_s, if_neg g6, xf_rf_say_72_s, wq_add, ih _ _ _ h3 (by omega), e1, Nat.add_assoc, Nat.add_comm 1, g1, Bool.true_and]
    · have e1 : wq_num v (s :: l) = wq_num v l + 1 := by
        rw [wq_num, if_neg g2]
      have e4 : xf_rf_say_58 (xf_rf_say_14 n N') n size text th v (Int32.ofNat c) s (wq_by v s) = xf_rf_say_91 n size text th v (Int32.ofNat (c + wq_num v (s :: l))) (Int32.ofNat 1) := by
        rw [xf_rf_say_58_s, xf_rf_say_59_s, if_neg g2, xf_rf_say_72_s, wq_add, wq_rsay0 n size th text v l _ _ _ h3 (by omega), e1, Nat.add_assoc, Nat.add_comm 1]
      rw [if_neg g2, g1, Bool.false_and]
      rcases g3 with g3 | ⟨g3, g4⟩
      · rw [if_pos g3, e4]
        rfl
      · rw [if_neg g3, if_pos g4, e4]
        rfl
/-- the bytes of a word, added on both sides -/
theorem wq_adds (n m : Nat) (full th : Int32) (v : Int64) : ∀ (l : List Int32) (s : Int32) (e N M : Nat) (signs text : Nat → Int32), wq_ch l s → l.length < N → l.length < M → l.all (wq_good v) = true → e + wq_num v l ≤ 1200 → (∀ j, j < e → text j = signs j ∧ ∃ k, 32 ≤ k ∧ k ≤ 126 ∧ signs j = Int32.ofNat k) →
    ∃ (signs' text' : Nat → Int32), xf_pg_addBytes_3 n N full (Int32.ofNat e) signs v s = some ((), full, Int32.ofNat (e + wq_num v l), signs') ∧ xf_rf_say_129 m M (Int32.ofNat e) text th v s = some (Int32.ofNat (e + wq_num v l), Int32.ofNat (e + wq_num v l), text', th) ∧ ∀ j, j < e + wq_num v l → text' j = signs' j ∧ ∃ k, 32 ≤ k ∧ k ≤ 126 ∧ signs' j = Int32.ofNat k := by
  intro l
  induction l with
  | nil =>
    intro s e N M signs text hs hN hM _ _ hT
    rw [List.length_nil] at hN hM
    obtain ⟨N', rfl⟩ : ∃ N', N = N' + 1 := ⟨N - 1, by omega⟩
    obtain ⟨M', rfl⟩ : ∃ M', M = M' + 1 := ⟨M - 1, by omega⟩
    have hs' : s < Int32.ofNat 0 := hs
    refine ⟨signs, text, ?_, ?_, hT⟩
    · rw [xf_pg_addBytes_3_s, if_pos hs']
      rfl
    · rw [xf_rf_say_129_s, if_pos hs']
      rfl
  | cons x l ih =>
    intro s e N M signs text hs hN hM hg he hT
    rw [List.length_cons] at hN hM
    obtain ⟨N', rfl⟩ : ∃ N', N = N' + 1 := ⟨N - 1, by omega⟩
    obtain ⟨M', rfl⟩ : ∃ M', M = M' + 1 := ⟨M - 1, by omega⟩
    obtain ⟨rfl, h1, h2, h3⟩ := hs
    rw [List.all_cons, Bool.and_eq_true] at hg
    have e0 : xf_xt_byteOf v s = some (wq_by v s) := rfl
    rw [xf_pg_addBytes_3_s, if_neg h1, e0, Option.bind_some, xf_rf_say_129_s, if_neg h1, wq_rby v h2]
    rcases wq_goodc v s with ⟨g1, g2 | ⟨k, g3, g4, g5⟩⟩ | ⟨g1, _⟩
    · have e1 : wq_num v (s :: l) = wq_num v l := by
        rw [wq_num, if_pos g2, Nat.add_zero]
      have e2 : ¬ Int32.ofNat 0 < Int32.ofNat 0 := by decide
      rw [e1] at he ⊢
      rw [if_pos g2, g2, if_neg e2, xf_pg_addBytes_26_s, xf_rf_say_171_s]
      exact ih _ e N' M' signs text h3 (by omega) (by omega) hg.2 he hT
    · have g6 : ¬ wq_by v s = Int32.ofNat 0 := by
        rw [g5]
        exact fun e => (wq_eqF (by omega) (by omega) (by omega)).mp e
      have e1 : wq_num v (s :: l) = wq_num v l + 1 := by
        rw [wq_num, if_neg g6]
      rw [e1] at he ⊢
      have e5 : xf_pg_add full (Int32.ofNat e) signs (xe_i2c (wq_by v s)) = some ((), full, Int32.ofNat (e + 1), upd signs e (Int32.ofNat k)) := by
        rw [g5, wq_i2c (by omega)]
        simp (disch := omega) only [↓xf_pg_add_47_s, ↓xf_pg_add_42_s, ↓xf_pg_add_s, wq_ltT, wq_ltF, wq_inT, wq_clamp, wq_eqF, wq_eqm, wq_meq, wq_add, wq_mul, wq_subT, eq_self, Bool.false_eq_true, ↓reduceIte, Option.bind_some, Sum.elim_inl, Sum.elim_inr, ↓wq_f0b, ↓wq_f1b, ↓wq_f2b, ↓wq_r0b, ↓wq_r1b, ↓Option.bind_some, wq_nar]
      rw [if_neg g6, e5, Option.bind_some, xf_pg_addBytes_26_s, g5]
      have e6 : (Int32.ofNat 0 < Int32.ofNat k) = True := wq_ltT (by omega) (by omega)
      have e7 : (xr_in (Int32.ofNat e) 1200 = true) = True := wq_inT (by omega) (by omega)
      rw [if_pos (e6 ▸ trivial), if_pos (e7 ▸ trivial), xf_rf_say_171_s, wq_add, wq_clamp (by omega)]
      have hT' : ∀ j, j < e + 1 → upd text e (Int32.ofNat k) j = upd signs e (Int32.ofNat k) j ∧ ∃ k', 32 ≤ k' ∧ k' ≤ 126 ∧ upd signs e (Int32.ofNat k) j = Int32.ofNat k' := by
        intro j hj
        by_cases hje : j = e
        · rw [hje, wq_upd1, wq_upd1]
          exact ⟨rfl, k, g3, g4, rfl⟩
        · rw [wq_upd2 hje, wq_upd2 hje]
          exact hT j (by omega)
      have := ih _ (e + 1) N' M' (upd signs e (Int32.ofNat k)) (upd text e (Int32.ofNat k)) h3 (by omega) (by omega) hg.2 (by omega) hT'
      rw [show e + (wq_num v l + 1) = e + 1 + wq_num v l by omega]
      exact this
    · rw [g1] at hg
      exact absurd hg.1 (by decide)
theorem wc_0 {sc : Nat × (Nat → Int32)} {N : Nat} (hN : 41 ≤ N) : wp_Ok sc wi_I (xf_law_0 sc N) := by
  apply wp_red_0
  intro A L S x y hI
  obtain ⟨⟨e, t1, t2, t3, t4⟩, hK, hm, hk⟩ := id hI
  generalize hv : ((xe_shl (x.toInt64) ((32 : Int32))) ||| ((y.toInt64) &&& ((4294967295 : Int64)))) = v
  rw [t2, t3]
  have hl : [(56 : Int32), 48, 40, 32, 24, 16, 8, 0].length = 8 := rfl
  have e0 : wq_num v [(56 : Int32), 48, 40, 32, 24, 16, 8, 0] ≤ 8 := wq_num_le v _
  have c1 := wq_csay N (S 1 2) (Int32.ofNat e) (A 2) v _ _ 0 N wq_ch0 (by omega)
  have c2 := wq_rsay1 N (Int32.ofNat e) (Int32.ofNat 0) (A 58) v _ _ 0 N wq_ch0 (by omega)
  rw [Nat.zero_add] at c1 c2
  by_cases hg : [(56 : Int32), 48, 40, 32, 24, 16, 8, 0].all (wq_good v) = true
  · rw [if_pos hg] at c1 c2
    by_cases hb : e + wq_num v [(56 : Int32), 48, 40, 32, 24, 16, 8, 0] ≤ 1200
    · obtain ⟨signs', text', d1, d2, d3⟩ := wq_adds N N (S 1 2) (Int32.ofNat 0) v _ _ e N N (A 2) (A 58) wq_ch0 (by omega) (by omega) hg hb t4
      generalize hc : e + wq_num v [(56 : Int32), 48, 40, 32, 24, 16, 8, 0] = e' at *
      have h1 : xf_la_say 1 N (S 1 2) (Int32.ofNat e) (A 2) (L 77) v = some (Int32.ofNat 0, S 1 2, Int32.ofNat e', signs', vp_updL (L 77) 0 (Int32.ofNat e').toInt64) := by
        simp (disch := omega) only [↓xf_la_say_s, xf_xt_say_s, c1, wq_ltT, wq_ltF, wq_inT, wq_clamp, wq_eqF, wq_eqm, wq_meq, wq_add, wq_mul, wq_subT, eq_self, Bool.false_eq_true, ↓reduceIte, Option.bind_some, Sum.elim_inl, Sum.elim_inr, ↓wq_f0b, ↓wq_f1b, ↓wq_f2b, ↓wq_r0b, ↓wq_r1b, ↓Option.bind_some, hc, xf_pg_addBytes_s, d1]
      have h2 : xf_rf_say N (Int32.ofNat e) (A 58) (S 57 0) v = some (Int32.ofNat e', Int32.ofNat e', text', Int32.ofNat 0) := by
        simp (disch := omega) only [xf_rf_say_s, c2, xf_rf_say_91_s, xf_rf_say_116_s, wq_f0, wq_ltT, wq_ltF, wq_inT, wq_clamp, wq_eqF, wq_eqm, wq_meq, wq_add, wq_mul, wq_subT, eq_self, Bool.false_eq_true, ↓reduceIte, Option.bind_some, Sum.elim_inl, Sum.elim_inr, ↓wq_f0b, ↓wq_f1b, ↓wq_f2b, ↓wq_r0b, ↓wq_r1b, ↓Option.bind_some, hc, d2]
      exact ⟨_, _, h1, h2, ⟨rfl, fun _ => wp_cmp _⟩, ⟨⟨e', hb, rfl, rfl, d3⟩, hK, hm, hk⟩⟩
    · generalize hc : e + wq_num v [(56 : Int32), 48, 40, 32, 24, 16, 8, 0] = e' at *
      have h1 : xf_la_say 1 N (S 1 2) (Int32.ofNat e) (A 2) (L 77) v = some (Int32.ofNat 2, S 1 2, Int32.ofNat e, A 2, L 77) := by
        have es : ("java/lang/IllegalStateException" = "java/lang/IllegalArgumentException") = False := by decide
        simp (disch := omega) only [↓xf_la_say_s, xf_xt_say_s, c1, wq_ltT, wq_ltF, wq_inT, wq_clamp, wq_eqF, wq_eqm, wq_meq, wq_add, wq_mul, wq_subT, eq_self, Bool.false_eq_true, ↓reduceIte, Option.bind_some, Sum.elim_inl, Sum.elim_inr, ↓wq_f0b, ↓wq_f1b, ↓wq_f2b, ↓wq_r0b, ↓wq_r1b, ↓Option.bind_some, hc, es]
      have h2 : xf_rf_say N (Int32.ofNat e) (A 58) (S 57 0) v = some (Int32.ofNat 0, Int32.ofNat e, A 58, Int32.ofNat 2) := by
        simp (disch := omega) only [xf_rf_say_s, c2, xf_rf_say_91_s, xf_rf_say_116_s, xf_rf_say_123_s, wq_f0, wq_f2, wq_ltT, wq_ltF, wq_inT, wq_clamp, wq_eqF, wq_eqm, wq_meq, wq_add, wq_mul, wq_subT, eq_self, Bool.false_eq_true, ↓reduceIte, Option.bind_some, Sum.elim_inl, Sum.elim_inr, ↓wq_f0b, ↓wq_f1b, ↓wq_f2b, ↓wq_r0b, ↓wq_r1b, ↓Option.bind_some, hc]
      exact ⟨_, _, h1, h2, ⟨rfl, fun h => absurd h wq_ne2⟩, ⟨⟨e, t1, rfl, rfl, t4⟩, hK, hm, hk⟩⟩
  · rw [if_neg hg] at c1 c2
    have h1 : xf_la_say 1 N (S 1 2) (Int32.ofNat e) (A 2) (L 77) v = some (Int32.ofNat 1, S 1 2, Int32.ofNat e, A 2, L 77) := by
      simp (disch := omega) only [↓xf_la_say_s, xf_xt_say_s, c1, wq_ltT, wq_ltF, wq_inT, wq_clamp, wq_eqF, wq_eqm, wq_meq, wq_add, wq_mul, wq_subT, eq_self, Bool.false_eq_true, ↓reduceIte, Option.bind_some, Sum.elim_inl, Sum.elim_inr, ↓wq_f0b, ↓wq_f1b, ↓wq_f2b, ↓wq_r0b, ↓wq_r1b, ↓Option.bind_some]
    have h2 : xf_rf_say N (Int32.ofNat e) (A 58) (S 57 0) v = some (Int32.ofNat 0, Int32.ofNat e, A 58, Int32.ofNat 1) := by
      simp (disch := omega) only [xf_rf_say_s, c2, xf_rf_say_91_s, xf_rf_say_123_s, wq_f1, wq_ltT, wq_ltF, wq_inT, wq_clamp, wq_eqF, wq_eqm, wq_meq, wq_add, wq_mul, wq_subT, eq_self, Bool.false_eq_true, ↓reduceIte, Option.bind_some, Sum.elim_inl, Sum.elim_inr, ↓wq_f0b, ↓wq_f1b, ↓wq_f2b, ↓wq_r0b, ↓wq_r1b, ↓Option.bind_some]
    exact ⟨_, _, h1, h2, ⟨rfl, fun h => absurd h wq_ne1⟩, ⟨⟨e, t1, rfl, rfl, t4⟩, hK, hm, hk⟩⟩
theorem wc_1 {sc : Nat × (Nat → Int32)} {N : Nat} : wp_Ok sc wi_I (xf_law_1 sc N) := by
  refine wp_case1 (fun A L S h => wi_text h) ?_
  intro A L S f v y hI hy hy2
  obtain ⟨⟨e, t1, t2, t3, t4⟩, hK, hm, hk⟩ := hI
  rcases wq_sgn y with h | ⟨k, hk', rfl⟩
  · exact absurd h hy
  · rw [t2, wq_lt (by omega) hk'] at hy2
    exact ⟨⟨k, by omega, rfl, rfl, fun j hj => t4 j (by omega)⟩, hK, hm, hk⟩
theorem wc_2 {sc : Nat × (Nat → Int32)} {N : Nat} : wp_Ok sc wi_I (xf_law_2 sc N) :=
  wp_case2 (fun A L S h => wi_text h) (fun A L S f v h => wi_out h)
