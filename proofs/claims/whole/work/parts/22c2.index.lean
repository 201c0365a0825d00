/-! INDEXOF: the library's methods, walked. -/
/-- which byte stands at i -/
def xi_b (i : Nat) : Int32 := [73, 84, 82, 76, 77, 69].getD i 0
/-- the first place from i on, k places long, at which y stands -/
def xi_f (y : Int32) : Nat → Nat → Int32
  | 0, _ => -1
  | k + 1, i => if xi_b i = y then Int32.ofNat i else xi_f y k (i + 1)
def xi_cv (x : Int32) : Int32 := if x < 0 then 0 else if 255 < x then 0 else 1
theorem xi_ixIn : ∀ k : Fin 256, xi_f (Int32.ofNat k.1).toInt8.toInt32 6 0 = xr_ix (Int32.ofNat k.1) := by decide +kernel
theorem xi_ixEq {x : Int32} (h : xi_cv x = 1) : xi_f x.toInt8.toInt32 6 0 = xr_ix x := by
  unfold xi_cv at h
  by_cases h0 : x < 0
  · rw [if_pos h0] at h
    exact absurd h (by decide)
  · rw [if_neg h0] at h
    by_cases h1 : 255 < x
    · rw [if_pos h1] at h
      exact absurd h (by decide)
    · have e0 : ¬ x.toInt < 0 := fun hh => h0 (Int32.lt_iff_toInt_lt.mpr (by rw [Int32.toInt_zero]; exact hh))
      have e1 : ¬ 255 < x.toInt := fun hh => h1 (Int32.lt_iff_toInt_lt.mpr (by rw [show (255 : Int32).toInt = 255 by decide]; exact hh))
      have ex : x = Int32.ofNat x.toInt.toNat := by
        apply Int32.toInt_inj.mp
        have := Int32.toInt_ofNat_of_lt (n := x.toInt.toNat) (by omega)
        rw [this]
        omega
      rw [ex]
      exact xi_ixIn ⟨x.toInt.toNat, by omega⟩
theorem xi_ixOut {x : Int32} (h : ¬ xi_cv x = 1) : xr_ix x = -1 := by
  unfold xr_ix
  have ne : ∀ k : Int32, xi_cv k = 1 → ¬ x = k := fun k hk e => h (by rw [e]; exact hk)
  rw [if_neg (ne 73 (by decide)), if_neg (ne 84 (by decide)), if_neg (ne 82 (by decide)), if_neg (ne 76 (by decide)), if_neg (ne 77 (by decide)), if_neg (ne 69 (by decide))]
section
variable {l : Launch} {g : xr_G} {adV : Nat → Nat}
theorem xi_fix {y : MethodName} {bytes : ByteArray} {maxL : Nat} {ret : Option FieldType} {p : Program} {s : State} {m : MethodId} {args : Array Value} {meth : Method} {c : Code} (E : xi_E g adV y bytes maxL ret p s m args meth c) : CallFix p m c bytes maxL s args xi_T y.cls := ⟨E.1, E.2.1, E.2.2.1, E.2.2.2.1, E.2.2.2.2.1⟩
theorem xi_canM (x : Int32) : Met l xi_can (Cond.code xi_can prog_20_method_4_code 1 (some .boolean) :: xi_T) (xi_rm 0 0) (xi_Pc g adV [.int x]) (xi_Qc (xi_cv x)) 0 0 (xg_A g) := by
  refine xi_met rfl (by show (1 : Nat) ≤ 1; omega) ?_
  intro p e s m below meth c ls E hl
  have hS : va_S (xg_A g) s.heap s.heap [] := va_S.rf
  have l0 : ls[0]? = some (.val (.int x)) := lv_at hl 0 rfl
  refine lv_iload_n E.1 E.2.1 xi_can_0 rfl l0 ?_
  refine lv_if_lt E.1 E.2.1 xi_can_1 (tgt := 15) rfl (fun h => ?_) (fun h => ?_)
  · refine lv_iconst E.1 E.2.1 xi_can_15 rfl ?_
    have ev : xi_cv x = 0 := if_pos h
    rw [ev]
    exact xi_ret E hS xi_can_16 rfl
  · refine lv_iload_n E.1 E.2.1 xi_can_4 rfl l0 ?_
    refine lv_sipush E.1 E.2.1 xi_can_5 (v := 255) (by decide) ?_
    refine lv_icmp_gt E.1 E.2.1 xi_can_8 (tgt := 15) rfl (fun h2 => ?_) (fun h2 => ?_)
    · refine lv_iconst E.1 E.2.1 xi_can_15 rfl ?_
      have ev : xi_cv x = 0 := (if_neg h).trans (if_pos h2)
      rw [ev]
      exact xi_ret E hS xi_can_16 rfl
    · refine lv_iconst E.1 E.2.1 xi_can_11 rfl ?_
      refine lv_goto E.1 E.2.1 xi_can_12 (tgt := 16) rfl ?_
      have ev : xi_cv x = 1 := (if_neg h).trans (if_neg h2)
      rw [ev]
      exact xi_ret E hS xi_can_16 rfl
theorem xi_codM : Met l xi_cod (Cond.code xi_cod prog_19_method_152_code 1 (some .byte) :: xi_T) (xi_rm 0 0) (xi_Pc g adV [.ref (xg_sa g)]) (xi_Qc 0) 0 0 (xg_A g) := by
  refine xi_met rfl (by show (1 : Nat) ≤ 1; omega) ?_
  intro p e s m below meth c ls E hl
  have hS : va_S (xg_A g) s.heap s.heap [] := va_S.rf
  have l0 : ls[0]? = some (.val (.ref (xg_sa g))) := lv_at hl 0 rfl
  have X := E.2.2.2.2.2.2.2
  refine va_gets E.1 E.2.1 X.2 hS E.2.2.2.1 (E.2.2.2.2.1 _ (xi_in 37 rfl)) (fun _ h => h) xi_cod_0 ?_
  refine lv_if_eq E.1 E.2.1 xi_cod_3 (tgt := 13) rfl (fun h => absurd h (by decide)) (fun _ => ?_)
  refine lv_aload_n E.1 E.2.1 xi_cod_6 rfl l0 ?_
  refine vk_getf E.1 E.2.1 (X.1.1 0 (by omega)).2.1 hS E.2.2.2.1 (E.2.2.2.2.1 _ (xi_in 38 rfl)) (fun _ h => h) xi_cod_7 ?_
  refine lv_goto E.1 E.2.1 xi_cod_10 (tgt := 14) rfl ?_
  exact xi_ret E hS xi_cod_14 rfl
theorem xi_latM : Met l xi_lat (Cond.code xi_lat prog_19_method_154_code 1 (some .boolean) :: xi_T) (xi_rm 0 0) (xi_Pc g adV [.ref (xg_sa g)]) (xi_Qc 1) 0 0 (xg_A g) := by
  refine xi_met rfl (by show (1 : Nat) ≤ 1; omega) ?_
  intro p e s m below meth c ls E hl
  have hS : va_S (xg_A g) s.heap s.heap [] := va_S.rf
  have l0 : ls[0]? = some (.val (.ref (xg_sa g))) := lv_at hl 0 rfl
  have X := E.2.2.2.2.2.2.2
  refine va_gets E.1 E.2.1 X.2 hS E.2.2.2.1 (E.2.2.2.2.1 _ (xi_in 37 rfl)) (fun _ h => h) xi_lat_0 ?_
  refine lv_if_eq E.1 E.2.1 xi_lat_3 (tgt := 17) rfl (fun h => absurd h (by decide)) (fun _ => ?_)
  refine lv_aload_n E.1 E.2.1 xi_lat_6 rfl l0 ?_
  refine vk_getf E.1 E.2.1 (X.1.1 0 (by omega)).2.1 hS E.2.2.2.1 (E.2.2.2.2.1 _ (xi_in 38 rfl)) (fun _ h => h) xi_lat_7 ?_
  refine lv_if_ne E.1 E.2.1 xi_lat_10 (tgt := 17) rfl (fun h => absurd rfl h) (fun _ => ?_)
  refine lv_iconst E.1 E.2.1 xi_lat_13 rfl ?_
  refine lv_goto E.1 E.2.1 xi_lat_14 (tgt := 18) rfl ?_
  exact xi_ret E hS xi_lat_18 rfl
theorem xi_lenM : Met l xi_len (Cond.code xi_len prog_19_method_54_code 1 (some .int) :: xi_T) (xi_rm 1 25) (xi_Pc g adV [.ref (xg_sa g)]) (xi_Qc 6) 0 0 (xg_A g) := by
  refine xi_met rfl (by show (1 : Nat) ≤ 1; omega) ?_
  intro p e s m below meth c ls E hl
  have hS : va_S (xg_A g) s.heap s.heap [] := va_S.rf
  have l0 : ls[0]? = some (.val (.ref (xg_sa g))) := lv_at hl 0 rfl
  have X := E.2.2.2.2.2.2.2
  refine lv_aload_n E.1 E.2.1 xi_len_0 rfl l0 ?_
  refine vk_getf E.1 E.2.1 (X.1.1 0 (by omega)).2.2.1 hS E.2.2.2.1 (E.2.2.2.2.1 _ (xi_in 39 rfl)) (fun _ h => h) xi_len_1 ?_
  refine va_tlen E.1 E.2.1 (X.1.1 0 (by omega)).2.2.2 hS (v := 6) (by decide) xi_len_4 ?_
  refine lv_aload_n E.1 E.2.1 xi_len_5 rfl l0 ?_
  refine xi_callV (As := []) (rest := [.int 6]) (v := 0) (n := 0) (xi_fix E) (fun _ h => h) xi_codM rfl rfl ⟨xi_in 18 rfl, rfl⟩ rfl (xi_in 19 rfl) (xi_in 20 rfl) (xi_in 0 rfl) (xi_in 21 rfl) ⟨by decide, by decide, by decide⟩ rfl ⟨by decide, by decide⟩ hl.1 X hS (by show (1 : Nat) ≤ 8; omega) xi_len_6 ⟨Nat.le_refl _, Nat.le_refl _⟩ ?_
  intro locs1 hS1
  refine lv_ishr E.1 E.2.1 xi_len_9 ?_
  have ev : (6 : Int32) >>> ((0 : Int32) &&& 31) = 6 := by decide
  rw [ev]
  exact xi_ret E hS1 xi_len_10 rfl
theorem xi_chrM (x : Int32) : Met l xi_chr (Cond.code xi_chr prog_20_method_23_code 6 (some .int) :: xi_T) (xi_rm 0 0) (xi_Pc g adV [.ref (adV 0), .int x, .int 0, .int 6]) (xi_Qc (xi_f x.toInt8.toInt32 6 0)) 0 0 (xg_A g) := by
  refine xi_met rfl (by show (4 : Nat) ≤ 6; omega) ?_
  intro p e s m below meth c ls E hl
  have hS : va_S (xg_A g) s.heap s.heap [] := va_S.rf
  have X := E.2.2.2.2.2.2.2
  refine lv_iload_n E.1 E.2.1 xi_chr_0 rfl (lv_at hl 1 rfl) ?_
  refine lv_i2b E.1 E.2.1 xi_chr_1 rfl ?_
  generalize x.toInt8.toInt32 = y
  refine lv_istore E.1 E.2.1 xi_chr_2 hl (by omega) rfl ?_
  intro ls1 hl1
  refine lv_iload_n E.1 E.2.1 xi_chr_4 rfl (lv_at hl1 3 rfl) ?_
  refine lv_istore E.1 E.2.1 xi_chr_5 hl1 (by omega) rfl ?_
  intro ls2 hl2
  suffices loop : ∀ (k i : Nat) (ls : Array Slot), i + k = 6 → lv_has ls 6 [(5, .int (Int32.ofNat i)), (4, .int y), (0, .ref (adV 0)), (1, .int x), (2, .int 0), (3, .int 6)] → W p l e (xi_rm 0 0) s m _ below meth c s.heap [] 0 0 (MQ below (xi_Qc (xi_f y k i)) _ s 0 0 (xg_A g)) (F0 m 7 ls []) from loop 6 0 ls2 (by omega) hl2
  intro k
  induction k with
  | zero =>
    intro i ls hi hl
    have e6 : i = 6 := by omega
    subst e6
    refine lv_iload E.1 E.2.1 xi_chr_7 (lv_at hl 0 rfl) ?_
    refine lv_iload_n E.1 E.2.1 xi_chr_9 rfl (lv_at hl 5 rfl) ?_
    refine lv_icmp_ge E.1 E.2.1 xi_chr_10 (tgt := 31) rfl (fun _ => ?_) (fun h => absurd (show (6 : Int32) ≤ Int32.ofNat 6 by decide) h)
    refine lv_iconst E.1 E.2.1 xi_chr_31 (v := -1) (by decide) ?_
    exact xi_ret E hS xi_chr_32 rfl
  | succ k ih =>
    intro i ls hi hl
    have hi6 : i < 6 := by omega
    have lt6 : ∀ j : Fin 6, ¬ (6 : Int32) ≤ Int32.ofNat j.1 ∧ (Int32.ofNat j.1).toNatClampNeg = j.1 ∧ ¬ Int32.ofNat j.1 < 0 ∧ Int32.ofNat j.1 + Int32.ofInt 1 = Int32.ofNat (j.1 + 1) := by decide +kernel
    obtain ⟨q1, q2, q3, q4⟩ := lt6 ⟨i, hi6⟩
    refine lv_iload E.1 E.2.1 xi_chr_7 (lv_at hl 0 rfl) ?_
    refine lv_iload_n E.1 E.2.1 xi_chr_9 rfl (lv_at hl 5 rfl) ?_
    refine lv_icmp_ge E.1 E.2.1 xi_chr_10 (tgt := 31) rfl (fun h => absurd h q1) (fun _ => ?_)
    refine lv_aload_n E.1 E.2.1 xi_chr_13 rfl (lv_at hl 2 rfl) ?_
    refine lv_iload E.1 E.2.1 xi_chr_14 (lv_at hl 0 rfl) ?_
    refine va_tb E.1 E.2.1 (X.1.1 0 (by omega)).2.2.2 hS (i := Int32.ofNat i) (v := .int (xi_b i)) ?_ ?_ xi_chr_16 ?_
    · intro hh
      rcases hh with hh | hh
      · exact q3 hh
      · have hh2 : 6 ≤ (Int32.ofNat i).toNatClampNeg := hh
        have q2' : (Int32.ofNat i).toNatClampNeg = i := q2
        omega
    · have q2' : (Int32.ofNat i).toNatClampNeg = i := q2
      show Value.int ([73, 84, 82, 76, 77, 69].getD (Int32.ofNat i).toNatClampNeg 0) = Value.int (xi_b i)
      rw [q2']
      rfl
    · refine lv_iload E.1 E.2.1 xi_chr_17 (lv_at hl 1 rfl) ?_
      refine lv_icmp_ne E.1 E.2.1 xi_chr_19 (tgt := 25) rfl (fun h => ?_) (fun h => ?_)
      · rw [xi_f, if_neg h]
        refine lv_iinc E.1 E.2.1 xi_chr_25 hl (k := 0) rfl (v := Int32.ofNat (i + 1)) q4 (by omega) rfl ?_
        intro ls3 hl3
        refine lv_goto E.1 E.2.1 xi_chr_28 (tgt := 7) rfl ?_
        exact ih (i + 1) ls3 (by omega) hl3
      · rw [xi_f, if_pos h]
        refine lv_iload E.1 E.2.1 xi_chr_22 (lv_at hl 0 rfl) ?_
        exact xi_ret E hS xi_chr_24 rfl
theorem xi_l1M (x : Int32) : Met l xi_l1 (Cond.code xi_l1 prog_20_method_22_code 4 (some .int) :: xi_T) (xi_rm 1 25) (xi_Pc g adV [.ref (adV 0), .int x, .int 0, .int 6]) (xi_Qc (xr_ix x)) 0 0 (xg_A g) := by
  refine xi_met rfl (by show (4 : Nat) ≤ 4; omega) ?_
  intro p e s m below meth c ls E hl
  have hS : va_S (xg_A g) s.heap s.heap [] := va_S.rf
  have X := E.2.2.2.2.2.2.2
  refine lv_iload_n E.1 E.2.1 xi_l1_0 rfl (lv_at hl 1 rfl) ?_
  refine xi_callS (As := [.int x]) (rest := []) (v := xi_cv x) (n := 1) (xi_fix E) (fun _ h => h) (xi_canM x) rfl rfl (xi_in 25 rfl) (xi_in 26 rfl) (xi_in 1 rfl) (xi_in 27 rfl) ⟨by decide, by decide, by decide⟩ rfl ⟨by decide, by decide⟩ hl.1 X hS (by show (0 : Nat) ≤ 8; omega) xi_l1_1 ⟨Nat.le_refl _, Nat.le_refl _⟩ ?_
  intro locs1 hS1
  refine lv_if_ne E.1 E.2.1 xi_l1_4 (tgt := 9) rfl (fun h => ?_) (fun h => ?_)
  · have hc : xi_cv x = 1 := by
      unfold xi_cv at h ⊢
      by_cases h0 : x < 0
      · rw [if_pos h0] at h
        exact absurd rfl h
      · rw [if_neg h0] at h ⊢
        by_cases h1 : 255 < x
        · rw [if_pos h1] at h
          exact absurd rfl h
        · rw [if_neg h1]
    rw [← xi_ixEq hc]
    refine lv_iload_n E.1 E.2.1 xi_l1_9 rfl (lv_at hl 2 rfl) ?_
    refine lv_iconst E.1 E.2.1 xi_l1_10 (v := 0) (by decide) ?_
    refine va_mmax E.1 E.2.1 (E.2.2.1.trans hl.1.symm) E.2.2.2.1 (E.2.2.2.2.1 _ (xi_in 31 rfl)) (E.2.2.2.2.1 _ (xi_in 32 rfl)) (E.2.2.2.2.1 _ (xi_in 2 rfl)) (E.2.2.2.2.1 _ (xi_in 33 rfl)) (by decide) (by show (0 : Nat) + 13 ≤ 25; omega) (Nat.le_refl _) (Nat.le_refl _) xi_l1_11 ?_
    rw [show (if (0 : Int32) < 0 then (0 : Int32) else 0) = 0 by decide]
    refine lv_istore_n E.1 E.2.1 xi_l1_14 rfl hl (by omega) rfl ?_
    intro ls1 hl1
    refine lv_iload_n E.1 E.2.1 xi_l1_15 rfl (lv_at hl1 3 rfl) ?_
    refine lv_aload_n E.1 E.2.1 xi_l1_16 rfl (lv_at hl1 1 rfl) ?_
    refine va_tlen E.1 E.2.1 (X.1.1 0 (by omega)).2.2.2 hS1 (v := 6) (by decide) xi_l1_17 ?_
    refine va_mmin E.1 E.2.1 (E.2.2.1.trans hl1.1.symm) E.2.2.2.1 (E.2.2.2.2.1 _ (xi_in 34 rfl)) (E.2.2.2.2.1 _ (xi_in 35 rfl)) (E.2.2.2.2.1 _ (xi_in 2 rfl)) (E.2.2.2.2.1 _ (xi_in 36 rfl)) (by decide) (by show (0 : Nat) + 13 ≤ 25; omega) (Nat.le_refl _) (Nat.le_refl _) xi_l1_18 ?_
    rw [show (if (6 : Int32) < 6 then (6 : Int32) else 6) = 6 by decide]
    refine lv_istore_n E.1 E.2.1 xi_l1_21 rfl hl1 (by omega) rfl ?_
    intro ls2 hl2
    refine lv_iload_n E.1 E.2.1 xi_l1_22 rfl (lv_at hl2 1 rfl) ?_
    refine lv_iload_n E.1 E.2.1 xi_l1_23 rfl (lv_at hl2 0 rfl) ?_
    refine lv_icmp_lt E.1 E.2.1 xi_l1_24 (tgt := 29) rfl (fun _ => ?_) (fun h => absurd (show (0 : Int32) < 6 by decide) h)
    refine lv_aload_n E.1 E.2.1 xi_l1_29 rfl (lv_at hl2 2 rfl) ?_
    refine lv_iload_n E.1 E.2.1 xi_l1_30 rfl (lv_at hl2 3 rfl) ?_
    refine lv_iload_n E.1 E.2.1 xi_l1_31 rfl (lv_at hl2 1 rfl) ?_
    refine lv_iload_n E.1 E.2.1 xi_l1_32 rfl (lv_at hl2 0 rfl) ?_
    refine xi_callS (As := [.ref (adV 0), .int x, .int 0, .int 6]) (rest := []) (v := xi_f x.toInt8.toInt32 6 0) (n := 4) (xi_fix E) (fun _ h => h) (xi_chrM x) rfl rfl (xi_in 28 rfl) (xi_in 29 rfl) (xi_in 1 rfl) (xi_in 30 rfl) ⟨by decide, by decide, by decide⟩ rfl ⟨by decide, by decide⟩ hl2.1 X hS1 (by show (0 : Nat) ≤ 8; omega) xi_l1_33 ⟨Nat.le_refl _, Nat.le_refl _⟩ ?_
    intro locs2 hS2
    exact xi_ret E hS2 xi_l1_36 rfl
  · have hc : ¬ xi_cv x = 1 := by
      rw [h]
      decide
    rw [xi_ixOut hc]
    refine lv_iconst E.1 E.2.1 xi_l1_7 (v := -1) (by decide) ?_
    exact xi_ret E hS1 xi_l1_8 rfl
theorem xi_ix2M (x : Int32) : Met l xi_ix2 (Cond.code xi_ix2 prog_19_method_80_code 3 (some .int) :: xi_T) (xi_rm 2 48) (xi_Pc g adV [.ref (xg_sa g), .int x, .int 0]) (xi_Qc (xr_ix x)) 0 0 (xg_A g) := by
  refine xi_met rfl (by show (3 : Nat) ≤ 3; omega) ?_
  intro p e s m below meth c ls E hl
  have hS : va_S (xg_A g) s.heap s.heap [] := va_S.rf
  have X := E.2.2.2.2.2.2.2
  refine lv_aload_n E.1 E.2.1 xi_ix2_0 rfl (lv_at hl 0 rfl) ?_
  refine xi_callV (As := []) (rest := []) (v := 1) (n := 0) (xi_fix E) (fun _ h => h) xi_latM rfl rfl ⟨xi_in 10 rfl, rfl⟩ rfl (xi_in 11 rfl) (xi_in 12 rfl) (xi_in 0 rfl) (xi_in 13 rfl) ⟨by decide, by decide, by decide⟩ rfl ⟨by decide, by decide⟩ hl.1 X hS (by show (0 : Nat) ≤ 8; omega) xi_ix2_1 ⟨Nat.le_refl _, Nat.le_refl _⟩ ?_
  intro locs1 hS1
  refine lv_if_eq E.1 E.2.1 xi_ix2_4 (tgt := 23) rfl (fun h => absurd h (by decide)) (fun _ => ?_)
  refine lv_aload_n E.1 E.2.1 xi_ix2_7 rfl (lv_at hl 0 rfl) ?_
  refine vk_getf E.1 E.2.1 (X.1.1 0 (by omega)).2.2.1 hS1 E.2.2.2.1 (E.2.2.2.2.1 _ (xi_in 39 rfl)) (fun _ h => h) xi_ix2_8 ?_
  refine lv_iload_n E.1 E.2.1 xi_ix2_11 rfl (lv_at hl 1 rfl) ?_
  refine lv_iload_n E.1 E.2.1 xi_ix2_12 rfl (lv_at hl 2 rfl) ?_
  refine lv_aload_n E.1 E.2.1 xi_ix2_13 rfl (lv_at hl 0 rfl) ?_
  refine xi_callV (As := []) (rest := [.int 0, .int x, .ref (adV 0)]) (v := 6) (n := 0) (xi_fix E) (fun _ h => h) xi_lenM rfl rfl ⟨xi_in 14 rfl, rfl⟩ rfl (xi_in 15 rfl) (xi_in 16 rfl) (xi_in 0 rfl) (xi_in 17 rfl) ⟨by decide, by decide, by decide⟩ rfl ⟨by decide, by decide⟩ hl.1 X hS1 (by show (3 : Nat) ≤ 8; omega) xi_ix2_14 ⟨Nat.le_refl _, Nat.le_refl _⟩ ?_
  intro locs2 hS2
  refine xi_callS (As := [.ref (adV 0), .int x, .int 0, .int 6]) (rest := []) (v := xr_ix x) (n := 4) (xi_fix E) (fun _ h => h) (xi_l1M x) rfl rfl (xi_in 22 rfl) (xi_in 23 rfl) (xi_in 1 rfl) (xi_in 24 rfl) ⟨by decide, by decide, by decide⟩ rfl ⟨by decide, by decide⟩ hl.1 X hS2 (by show (0 : Nat) ≤ 8; omega) xi_ix2_17 ⟨Nat.le_refl _, Nat.le_refl _⟩ ?_
  intro locs3 hS3
  refine lv_goto E.1 E.2.1 xi_ix2_20 (tgt := 36) rfl ?_
  exact xi_ret E hS3 xi_ix2_36 rfl
theorem xi_ix1M (x : Int32) : Met l xi_ix1 (Cond.code xi_ix1 prog_19_method_79_code 2 (some .int) :: xi_T) (xi_rm 3 70) (xi_Pc g adV [.ref (xg_sa g), .int x]) (xi_Qc (xr_ix x)) 0 0 (xg_A g) := by
  refine xi_met rfl (by show (2 : Nat) ≤ 2; omega) ?_
  intro p e s m below meth c ls E hl
  have hS : va_S (xg_A g) s.heap s.heap [] := va_S.rf
  have X := E.2.2.2.2.2.2.2
  refine lv_aload_n E.1 E.2.1 xi_ix1_0 rfl (lv_at hl 0 rfl) ?_
  refine lv_iload_n E.1 E.2.1 xi_ix1_1 rfl (lv_at hl 1 rfl) ?_
  refine lv_iconst E.1 E.2.1 xi_ix1_2 (v := 0) (by decide) ?_
  refine xi_callV (As := [.int x, .int 0]) (rest := []) (v := xr_ix x) (n := 2) (xi_fix E) (fun _ h => h) (xi_ix2M x) rfl rfl ⟨xi_in 6 rfl, rfl⟩ rfl (xi_in 7 rfl) (xi_in 8 rfl) (xi_in 0 rfl) (xi_in 9 rfl) ⟨by decide, by decide, by decide⟩ rfl ⟨by decide, by decide⟩ hl.1 X hS (by show (0 : Nat) ≤ 8; omega) xi_ix1_3 ⟨Nat.le_refl _, Nat.le_refl _⟩ ?_
  intro locs1 hS1
  exact xi_ret E hS1 xi_ix1_6 rfl
end
