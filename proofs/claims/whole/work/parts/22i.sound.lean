theorem xr_inv_ok {P : xr_P} {l : Launch} {g : xr_G} {k : xr_K → Option xr_R} (hOK : xr_OK P) (hk : xr_Go P l g k) {M ce sl pc u kx a b : Nat} {lv : List (Nat × Value)} {st : List Value} {ws : xr_W} {r : xr_R} {ins : Instr} {v : Value} (hd : decode (xp_cd P M) pc = .ok (ins, 3)) (hu : (u = 0 ∧ ins = .invokevirtual kx) ∨ (u = 1 ∧ ins = .invokespecial kx) ∨ (u = 2 ∧ ins = .invokestatic kx)) (hs : xr_cs P M u kx a b v)
    (h : xr_inv k (xp_B P) M (xp_B P M).1 (xp_B P M).2 ce sl pc lv st ws a b v = some r) : xr_J P l g M ce sl pc lv st ws r := by
  unfold xr_inv at h
  split at h
  · rename_i x
    rcases hs with ⟨n, z, -⟩ | ⟨hrl, hs⟩
    · cases z
    rcases hs with ⟨rfl, z, h1, h2, h3⟩ | ⟨rfl, z, h1, h2, h3, h4⟩ | ⟨rfl, z, h1, h2, h3, h4⟩ | ⟨rfl, z, h1⟩
    · cases z
      have hdi : decode (xp_cd P M) pc = .ok (.invokespecial kx, 3) := by
        rcases hu with ⟨z, -⟩ | ⟨-, rfl⟩ | ⟨z, -⟩
        · omega
        · exact hd
        · omega
      replace h : (if (st.map Value.category).sum ≤ 8 then xr_a1 st (fun _ r => k (M, (xp_B P M).1, (xp_B P M).2, ce, sl, pc + 3, lv, r, ws)) else none) = some r := h
      obtain ⟨hc, h⟩ := xn_if h
      obtain ⟨y, rs, rfl, h⟩ := xn_a1 h
      rw [List.map_cons, List.sum_cons] at hc
      exact xj_objInit hdi hrl h1 h2 h3 (by omega) (hk _ _ _ _ _ _ _ _ h)
    · cases z
      have hdi : decode (xp_cd P M) pc = .ok (.invokestatic kx, 3) := by
        rcases hu with ⟨z, -⟩ | ⟨z, -⟩ | ⟨-, rfl⟩
        · omega
        · omega
        · exact hd
      replace h : (if (st.map Value.category).sum ≤ 8 then xr_ii st (fun x y => if x < y then y else x) (fun r => k (M, (xp_B P M).1, (xp_B P M).2, ce, sl, pc + 3, lv, r, ws)) else none) = some r := h
      obtain ⟨hc, h⟩ := xn_if h
      obtain ⟨x, y, rs, rfl, h⟩ := xn_ii h
      rw [List.map_cons, List.map_cons, List.sum_cons, List.sum_cons] at hc
      exact xj_mmax hdi hrl h1 h2 h3 h4 (by omega) (hk _ _ _ _ _ _ _ _ h)
    · cases z
      have hdi : decode (xp_cd P M) pc = .ok (.invokestatic kx, 3) := by
        rcases hu with ⟨z, -⟩ | ⟨z, -⟩ | ⟨-, rfl⟩
        · omega
        · omega
        · exact hd
      replace h : (if (st.map Value.category).sum ≤ 12 then xr_cpy st ws (fun r w => k (M, (xp_B P M).1, (xp_B P M).2, ce, sl, pc + 3, lv, r, w)) else none) = some r := h
      obtain ⟨hc, h9⟩ := xn_if h
      clear h
      have h := h9
      clear h9
      unfold xr_cpy at h
      split at h
      · rename_i n dp j1 sp j0 rs
        have hc8 : (rs.map Value.category).sum ≤ 8 := by
          have hc9 : 1 + (1 + (1 + (1 + (1 + (rs.map Value.category).sum)))) ≤ 12 := hc
          omega
        unfold xr_cpc at h
        split at h
        · rename_i t0 n0 f t1 n1 gg hj0 hj1
          obtain ⟨ht, h8⟩ := xn_if h
          subst ht
          obtain ⟨hq, h⟩ := xn_if h8
          clear h8
          split at h
          · exact xj_copyi hdi hrl h1 h2 h3 h4 hc8 (by decide) hj0 hj1 hq (fun _ _ => rfl) (hk _ _ _ _ _ _ _ _ h)
          · obtain ⟨hf, h⟩ := xn_if h
            exact xj_copyi hdi hrl h1 h2 h3 h4 hc8 (by decide) hj0 hj1 hq (fun i hi => List.all_eq_true.mp hf i (List.mem_range.mpr hi)) (hk _ _ _ _ _ _ _ _ h)
          · cases h
        · rename_i t0 n0 f t1 n1 gg hj0 hj1
          obtain ⟨⟨ht, ht2⟩, h8⟩ := xn_if h
          subst ht; subst ht2
          obtain ⟨hq, h⟩ := xn_if h8
          exact xj_copyl hdi hrl h1 h2 h3 h4 hc8 hj0 hj1 hq (hk _ _ _ _ _ _ _ _ h)
        · cases h
      · cases h
    · cases z
      have hdi : decode (xp_cd P M) pc = .ok (.invokevirtual kx, 3) := by
        rcases hu with ⟨-, rfl⟩ | ⟨z, -⟩ | ⟨z, -⟩
        · exact hd
        · omega
        · omega
      simp only [xr_lib, show Int32.toNatClampNeg 4 = 4 from rfl] at h
      obtain ⟨hc, h9⟩ := xn_if h
      clear h
      have h := h9
      clear h9
      split at h
      · rename_i x rs
        rw [List.map_cons, List.map_cons, List.sum_cons, List.sum_cons] at hc
        exact xj_ix hdi hrl h1 (by omega) (hk _ _ _ _ _ _ _ _ h)
      · cases h
  · rename_i n
    exact xj_call hOK hk hd hu hs h
  · cases h
set_option maxHeartbeats 4000000 in
/-- one instruction -/
theorem xr_exec_ok {P : xr_P} {l : Launch} {g : xr_G} {k : xr_K → Option xr_R} (hOK : xr_OK P) (hk : xr_Go P l g k) {M ce sl pc len a b : Nat} {lv : List (Nat × Value)} {st : List Value} {ws : xr_W} {r : xr_R} {i : Instr} {v : Value} {tab : List (Int32 × Nat)} (hM : M < xp_N P) (hd : decode (xp_cd P M) pc = .ok (i, len)) (hs : xr_sx P M pc len i a b v tab)
    (h : xr_exec (xg_sc g) (xp_B P) (xp_t P) k M (xp_B P M).1 (xp_B P M).2 ce sl pc lv st ws i a b v tab = some r) : xr_J P l g M ce sl pc lv st ws r := by
  cases i with
  | iconst n =>
    obtain ⟨rfl, rfl⟩ := hs
    exact xj_iconst hd rfl (hk _ _ _ _ _ _ _ _ h)
  | bipush n =>
    obtain ⟨rfl, rfl⟩ := hs
    exact xj_bipush hd rfl (hk _ _ _ _ _ _ _ _ h)
  | sipush n =>
    obtain ⟨rfl, rfl⟩ := hs
    exact xj_sipush hd rfl (hk _ _ _ _ _ _ _ _ h)
  | lconst n =>
    obtain ⟨rfl, rfl⟩ := hs
    exact xj_lconst hd rfl (hk _ _ _ _ _ _ _ _ h)
  | ldc n =>
    obtain ⟨rfl, hs⟩ := hs
    rcases hs with ⟨x, rfl, hc⟩ | ⟨rfl, hc⟩
    · exact xj_ldc hd hc (hk _ _ _ _ _ _ _ _ h)
    · exact xj_ldcS hd hc (hk _ _ _ _ _ _ _ _ h)
  | ldc2_w n =>
    obtain ⟨rfl, x, rfl, hc⟩ := hs
    exact xj_ldc2 hd hc (hk _ _ _ _ _ _ _ _ h)
  | iload n =>
    obtain ⟨rfl, rfl⟩ := hs
    obtain ⟨x, hx, h⟩ := xn_gi h
    exact xj_iload hd hx (hk _ _ _ _ _ _ _ _ h)
  | iload_n n =>
    obtain ⟨rfl, hn⟩ := hs
    obtain ⟨x, hx, h⟩ := xn_gi h
    exact xj_iload_n hd hn hx (hk _ _ _ _ _ _ _ _ h)
  | lload n =>
    obtain ⟨rfl, rfl⟩ := hs
    obtain ⟨x, hx, h⟩ := xn_gl h
    exact xj_lload hd hx (hk _ _ _ _ _ _ _ _ h)
  | lload_n n =>
    obtain ⟨rfl, hn⟩ := hs
    obtain ⟨x, hx, h⟩ := xn_gl h
    exact xj_lload_n hd hn hx (hk _ _ _ _ _ _ _ _ h)
  | aload n =>
    obtain ⟨rfl, rfl⟩ := hs
    obtain ⟨x, hx, h⟩ := xn_ga h
    exact xj_aload hd hx (hk _ _ _ _ _ _ _ _ h)
  | aload_n n =>
    obtain ⟨rfl, hn⟩ := hs
    obtain ⟨x, hx, h⟩ := xn_ga h
    exact xj_aload_n hd hn hx (hk _ _ _ _ _ _ _ _ h)
  | istore n =>
    obtain ⟨rfl, rfl, hb⟩ := hs
    obtain ⟨x, rs, rfl, h⟩ := xn_i1 h
    exact xj_istore hd hb (hk _ _ _ _ _ _ _ _ h)
  | istore_n n =>
    obtain ⟨rfl, hn, hb⟩ := hs
    obtain ⟨x, rs, rfl, h⟩ := xn_i1 h
    exact xj_istore_n hd hn hb (hk _ _ _ _ _ _ _ _ h)
  | lstore n =>
    obtain ⟨rfl, rfl, hb⟩ := hs
    obtain ⟨x, rs, rfl, h⟩ := xn_l1 h
    exact xj_lstore hd hb (hk _ _ _ _ _ _ _ _ h)
  | lstore_n n =>
    obtain ⟨rfl, hn, hb⟩ := hs
    obtain ⟨x, rs, rfl, h⟩ := xn_l1 h
    exact xj_lstore_n hd hn hb (hk _ _ _ _ _ _ _ _ h)
  | astore n =>
    obtain ⟨rfl, rfl, hb⟩ := hs
    obtain ⟨x, rs, rfl, h⟩ := xn_a1 h
    exact xj_astore hd hb (hk _ _ _ _ _ _ _ _ h)
  | astore_n n =>
    obtain ⟨rfl, hn, hb⟩ := hs
    obtain ⟨x, rs, rfl, h⟩ := xn_a1 h
    exact xj_astore_n hd hn hb (hk _ _ _ _ _ _ _ _ h)
  | iinc n z =>
    obtain ⟨rfl, rfl, rfl, hb⟩ := hs
    obtain ⟨x, hx, h⟩ := xn_gi h
    obtain ⟨y, hy, h⟩ := xn_gi h
    cases hy
    exact xj_iinc hd hx hb (hk _ _ _ _ _ _ _ _ h)
  | iadd =>
    obtain rfl : len = 1 := hs
    replace h : xr_ii st (fun x y => x + y) (fun r => k (M, (xp_B P M).1, (xp_B P M).2, ce, sl, pc + 1, lv, r, ws)) = some r := h
    obtain ⟨x, y, rs, rfl, h⟩ := xn_ii h
    exact xj_iadd hd (hk _ _ _ _ _ _ _ _ h)
  | isub =>
    obtain rfl : len = 1 := hs
    replace h : xr_ii st (fun x y => x - y) (fun r => k (M, (xp_B P M).1, (xp_B P M).2, ce, sl, pc + 1, lv, r, ws)) = some r := h
    obtain ⟨x, y, rs, rfl, h⟩ := xn_ii h
    exact xj_isub hd (hk _ _ _ _ _ _ _ _ h)
  | imul =>
    obtain rfl : len = 1 := hs
    replace h : xr_ii st (fun x y => x * y) (fun r => k (M, (xp_B P M).1, (xp_B P M).2, ce, sl, pc + 1, lv, r, ws)) = some r := h
    obtain ⟨x, y, rs, rfl, h⟩ := xn_ii h
    exact xj_imul hd (hk _ _ _ _ _ _ _ _ h)
  | iand =>
    obtain rfl : len = 1 := hs
    replace h : xr_ii st (fun x y => x &&& y) (fun r => k (M, (xp_B P M).1, (xp_B P M).2, ce, sl, pc + 1, lv, r, ws)) = some r := h
    obtain ⟨x, y, rs, rfl, h⟩ := xn_ii h
    exact xj_iand hd (hk _ _ _ _ _ _ _ _ h)
  | ladd =>
    obtain rfl : len = 1 := hs
    replace h : xr_ll st (fun x y => x + y) (fun r => k (M, (xp_B P M).1, (xp_B P M).2, ce, sl, pc + 1, lv, r, ws)) = some r := h
    obtain ⟨x, y, rs, rfl, h⟩ := xn_ll h
    exact xj_ladd hd (hk _ _ _ _ _ _ _ _ h)
  | land =>
    obtain rfl : len = 1 := hs
    replace h : xr_ll st (fun x y => x &&& y) (fun r => k (M, (xp_B P M).1, (xp_B P M).2, ce, sl, pc + 1, lv, r, ws)) = some r := h
    obtain ⟨x, y, rs, rfl, h⟩ := xn_ll h
    exact xj_land hd (hk _ _ _ _ _ _ _ _ h)
  | lor =>
    obtain rfl : len = 1 := hs
    replace h : xr_ll st (fun x y => x ||| y) (fun r => k (M, (xp_B P M).1, (xp_B P M).2, ce, sl, pc + 1, lv, r, ws)) = some r := h
    obtain ⟨x, y, rs, rfl, h⟩ := xn_ll h
    exact xj_lor hd (hk _ _ _ _ _ _ _ _ h)
  | lxor =>
    obtain rfl : len = 1 := hs
    replace h : xr_ll st (fun x y => x ^^^ y) (fun r => k (M, (xp_B P M).1, (xp_B P M).2, ce, sl, pc + 1, lv, r, ws)) = some r := h
    obtain ⟨x, y, rs, rfl, h⟩ := xn_ll h
    exact xj_lxor hd (hk _ _ _ _ _ _ _ _ h)
  | lshl =>
    obtain rfl : len = 1 := hs
    replace h : xr_li st (fun x y => x <<< (y.toInt64 &&& 63)) (fun r => k (M, (xp_B P M).1, (xp_B P M).2, ce, sl, pc + 1, lv, r, ws)) = some r := h
    obtain ⟨x, y, rs, rfl, h⟩ := xn_li h
    exact xj_lshl hd (hk _ _ _ _ _ _ _ _ h)
  | lshr =>
    obtain rfl : len = 1 := hs
    replace h : xr_li st (fun x y => x >>> (y.toInt64 &&& 63)) (fun r => k (M, (xp_B P M).1, (xp_B P M).2, ce, sl, pc + 1, lv, r, ws)) = some r := h
    obtain ⟨x, y, rs, rfl, h⟩ := xn_li h
    exact xj_lshr hd (hk _ _ _ _ _ _ _ _ h)
  | lushr =>
    obtain rfl : len = 1 := hs
    replace h : xr_li st (fun x y => (x.toUInt64 >>> (y.toInt64.toUInt64 &&& Int64.toUInt64 63)).toInt64) (fun r => k (M, (xp_B P M).1, (xp_B P M).2, ce, sl, pc + 1, lv, r, ws)) = some r := h
    obtain ⟨x, y, rs, rfl, h⟩ := xn_li h
    exact xj_lushr hd (hk _ _ _ _ _ _ _ _ h)
  | idiv =>
    obtain rfl : len = 1 := hs
    obtain ⟨x, y, rs, rfl, h⟩ := xn_i2 h
    obtain ⟨hy, h⟩ := xn_ifn h
    exact xj_idiv hd hy (hk _ _ _ _ _ _ _ _ h)
  | irem =>
    obtain rfl : len = 1 := hs
    obtain ⟨x, y, rs, rfl, h⟩ := xn_i2 h
    obtain ⟨hy, h⟩ := xn_ifn h
    exact xj_irem hd hy (hk _ _ _ _ _ _ _ _ h)
  | ineg =>
    obtain rfl : len = 1 := hs
    obtain ⟨x, rs, rfl, h⟩ := xn_i1 h
    exact xj_ineg hd (hk _ _ _ _ _ _ _ _ h)
  | i2l =>
    obtain rfl : len = 1 := hs
    obtain ⟨x, rs, rfl, h⟩ := xn_i1 h
    exact xj_i2l hd (hk _ _ _ _ _ _ _ _ h)
  | l2i =>
    obtain rfl : len = 1 := hs
    obtain ⟨x, rs, rfl, h⟩ := xn_l1 h
    exact xj_l2i hd (hk _ _ _ _ _ _ _ _ h)
  | i2c =>
    obtain rfl : len = 1 := hs
    obtain ⟨x, rs, rfl, h⟩ := xn_i1 h
    exact xj_i2c hd (hk _ _ _ _ _ _ _ _ h)
  | lcmp =>
    obtain rfl : len = 1 := hs
    obtain ⟨x, y, rs, rfl, h⟩ := xn_l2 h
    exact xj_lcmp hd (hk _ _ _ _ _ _ _ _ h)
  | dup =>
    obtain rfl : len = 1 := hs
    match st, h with
    | x :: rs, h =>
      obtain ⟨hx, h⟩ := xn_if h
      exact xj_dup hd hx (hk _ _ _ _ _ _ _ _ h)
    | [], h => cases h
  | pop =>
    obtain rfl : len = 1 := hs
    match st, h with
    | x :: rs, h =>
      obtain ⟨hx, h⟩ := xn_if h
      exact xj_pop hd hx (hk _ _ _ _ _ _ _ _ h)
    | [], h => cases h
  | dup2 =>
    obtain rfl : len = 1 := hs
    match st, h with
    | x :: y :: rs, h =>
      obtain ⟨⟨hx, hy⟩, h⟩ := xn_if h
      exact xj_dup2 hd hx hy (hk _ _ _ _ _ _ _ _ h)
    | [x], h => cases h
    | [], h => cases h
  | goto off =>
    obtain ⟨rfl, ht⟩ := hs
    exact xj_goto hd ht (hk _ _ _ _ _ _ _ _ h)
  | ifCond c off =>
    obtain ⟨rfl, ht⟩ := hs
    obtain ⟨x, rs, rfl, h⟩ := xn_i1 h
    have h9 := xn_c0 h
    cases c with
    | eq => exact xj_if_eq hd ht (fun z => hk _ _ _ _ _ _ _ _ (h9.1 z)) (fun z => hk _ _ _ _ _ _ _ _ (h9.2 z))
    | ne => exact xj_if_ne hd ht (fun z => hk _ _ _ _ _ _ _ _ (h9.1 z)) (fun z => hk _ _ _ _ _ _ _ _ (h9.2 z))
    | lt => exact xj_if_lt hd ht (fun z => hk _ _ _ _ _ _ _ _ (h9.1 z)) (fun z => hk _ _ _ _ _ _ _ _ (h9.2 z))
    | ge => exact xj_if_ge hd ht (fun z => hk _ _ _ _ _ _ _ _ (h9.1 z)) (fun z => hk _ _ _ _ _ _ _ _ (h9.2 z))
    | gt => exact xj_if_gt hd ht (fun z => hk _ _ _ _ _ _ _ _ (h9.1 z)) (fun z => hk _ _ _ _ _ _ _ _ (h9.2 z))
    | le => exact xj_if_le hd ht (fun z => hk _ _ _ _ _ _ _ _ (h9.1 z)) (fun z => hk _ _ _ _ _ _ _ _ (h9.2 z))
  | if_icmp c off =>
    obtain ⟨rfl, ht⟩ := hs
    obtain ⟨x, y, rs, rfl, h⟩ := xn_i2 h
    have h9 := xn_c2 h
    cases c with
    | eq => exact xj_icmp_eq hd ht (fun z => hk _ _ _ _ _ _ _ _ (h9.1 z)) (fun z => hk _ _ _ _ _ _ _ _ (h9.2 z))
    | ne => exact xj_icmp_ne hd ht (fun z => hk _ _ _ _ _ _ _ _ (h9.1 z)) (fun z => hk _ _ _ _ _ _ _ _ (h9.2 z))
    | lt => exact xj_icmp_lt hd ht (fun z => hk _ _ _ _ _ _ _ _ (h9.1 z)) (fun z => hk _ _ _ _ _ _ _ _ (h9.2 z))
    | ge => exact xj_icmp_ge hd ht (fun z => hk _ _ _ _ _ _ _ _ (h9.1 z)) (fun z => hk _ _ _ _ _ _ _ _ (h9.2 z))
    | gt => exact xj_icmp_gt hd ht (fun z => hk _ _ _ _ _ _ _ _ (h9.1 z)) (fun z => hk _ _ _ _ _ _ _ _ (h9.2 z))
    | le => exact xj_icmp_le hd ht (fun z => hk _ _ _ _ _ _ _ _ (h9.1 z)) (fun z => hk _ _ _ _ _ _ _ _ (h9.2 z))
  | tableswitch d lo hi offs =>
    obtain ⟨ht, htab⟩ := hs
    obtain ⟨x, rs, rfl, h⟩ := xn_i1 h
    exact xj_tableswitch (fun t => k (M, (xp_B P M).1, (xp_B P M).2, ce, sl, t, lv, rs, ws)) hd ht htab (fun t ht9 => hk _ _ _ _ _ _ _ _ ht9) h
  | getfield n =>
    obtain ⟨rfl, hf⟩ := hs
    replace h : xr_gf a b st ws (fun r => k (M, (xp_B P M).1, (xp_B P M).2, ce, sl, pc + 3, lv, r, ws)) = some r := h
    unfold xr_gf at h
    split at h
    · obtain ⟨fs, hj, h⟩ := xn_co h
      split at h
      · rename_i y hy
        exact xj_getfield hd hf hj hy (hk _ _ _ _ _ _ _ _ h)
      · cases h
    · cases h
  | putfield n =>
    obtain ⟨rfl, hf⟩ := hs
    replace h : xr_pf ((xp_t P).2.2 a b) a b st ws (fun r w => k (M, (xp_B P M).1, (xp_B P M).2, ce, sl, pc + 3, lv, r, w)) = some r := h
    unfold xr_pf at h
    split at h
    · obtain ⟨fs, hj, h⟩ := xn_co h
      obtain ⟨hy, h⟩ := xn_if h
      exact xj_putfield hd hf hj hy (hk _ _ _ _ _ _ _ _ h)
    · cases h
  | iaload =>
    obtain rfl : len = 1 := hs
    replace h : xr_ald (xg_sc g) 0 st ws (fun r => k (M, (xp_B P M).1, (xp_B P M).2, ce, sl, pc + 1, lv, r, ws)) = some r := h
    unfold xr_ald at h
    split at h
    · obtain ⟨⟨ht, hx⟩, h⟩ := xn_if h
      exact xj_sld hd hx (hk _ _ _ _ _ _ _ _ h)
    · obtain ⟨n, f, hj, h⟩ := xn_ci h
      obtain ⟨hx, h⟩ := xn_if h
      exact xj_iald hd hj hx (hk _ _ _ _ _ _ _ _ h)
    · cases h
  | caload =>
    obtain rfl : len = 1 := hs
    replace h : xr_ald (xg_sc g) 2 st ws (fun r => k (M, (xp_B P M).1, (xp_B P M).2, ce, sl, pc + 1, lv, r, ws)) = some r := h
    unfold xr_ald at h
    split at h
    · obtain ⟨⟨ht, hx⟩, h⟩ := xn_if h
      cases ht
    · obtain ⟨n, f, hj, h⟩ := xn_ci h
      obtain ⟨hx, h⟩ := xn_if h
      exact xj_cald hd hj hx (hk _ _ _ _ _ _ _ _ h)
    · cases h
  | baload =>
    obtain rfl : len = 1 := hs
    replace h : xr_ald (xg_sc g) 3 st ws (fun r => k (M, (xp_B P M).1, (xp_B P M).2, ce, sl, pc + 1, lv, r, ws)) = some r := h
    unfold xr_ald at h
    split at h
    · obtain ⟨⟨ht, hx⟩, h⟩ := xn_if h
      cases ht
    · obtain ⟨n, f, hj, h⟩ := xn_ci h
      obtain ⟨hx, h⟩ := xn_if h
      exact xj_zald hd hj hx (hk _ _ _ _ _ _ _ _ h)
    · cases h
  | laload =>
    obtain rfl : len = 1 := hs
    replace h : xr_lald st ws (fun r => k (M, (xp_B P M).1, (xp_B P M).2, ce, sl, pc + 1, lv, r, ws)) = some r := h
    unfold xr_lald at h
    split at h
    · obtain ⟨n, f, hj, h⟩ := xn_cl h
      obtain ⟨hx, h⟩ := xn_if h
      exact xj_lald hd hj hx (hk _ _ _ _ _ _ _ _ h)
    · cases h
  | iastore =>
    obtain rfl : len = 1 := hs
    replace h : xr_ast 0 st ws (fun r w => k (M, (xp_B P M).1, (xp_B P M).2, ce, sl, pc + 1, lv, r, w)) = some r := h
    unfold xr_ast at h
    split at h
    · obtain ⟨n, f, hj, h⟩ := xn_ci h
      obtain ⟨hx, h⟩ := xn_if h
      exact xj_iast hd hj hx (hk _ _ _ _ _ _ _ _ h)
    · cases h
  | castore =>
    obtain rfl : len = 1 := hs
    replace h : xr_ast 2 st ws (fun r w => k (M, (xp_B P M).1, (xp_B P M).2, ce, sl, pc + 1, lv, r, w)) = some r := h
    unfold xr_ast at h
    split at h
    · obtain ⟨n, f, hj, h⟩ := xn_ci h
      obtain ⟨hx, h⟩ := xn_if h
      exact xj_cast hd hj hx (hk _ _ _ _ _ _ _ _ h)
    · cases h
  | bastore =>
    obtain rfl : len = 1 := hs
    replace h : xr_ast 3 st ws (fun r w => k (M, (xp_B P M).1, (xp_B P M).2, ce, sl, pc + 1, lv, r, w)) = some r := h
    unfold xr_ast at h
    split at h
    · obtain ⟨n, f, hj, h⟩ := xn_ci h
      obtain ⟨hx, h⟩ := xn_if h
      exact xj_zast hd hj hx (hk _ _ _ _ _ _ _ _ h)
    · cases h
  | lastore =>
    obtain rfl : len = 1 := hs
    replace h : xr_last st ws (fun r w => k (M, (xp_B P M).1, (xp_B P M).2, ce, sl, pc + 1, lv, r, w)) = some r := h
    unfold xr_last at h
    split at h
    · obtain ⟨n, f, hj, h⟩ := xn_cl h
      obtain ⟨hx, h⟩ := xn_if h
      exact xj_last hd hj hx (hk _ _ _ _ _ _ _ _ h)
    · cases h
  | arraylength =>
    obtain rfl : len = 1 := hs
    replace h : xr_len (xg_sc g) st ws (fun r => k (M, (xp_B P M).1, (xp_B P M).2, ce, sl, pc + 1, lv, r, ws)) = some r := h
    unfold xr_len at h
    split at h
    · exact xj_slen hd (hk _ _ _ _ _ _ _ _ h)
    · split at h
      · rename_i x hx
        obtain ⟨hx4, h⟩ := xn_if h
        exact xj_alen hd hx hx4 (hk _ _ _ _ _ _ _ _ h)
      · cases h
    · cases h
  | new n =>
    obtain ⟨rfl, hf⟩ := hs
    match b, hf, h with
    | 0, hf, h =>
      obtain ⟨⟨⟨h1, h2, h3⟩, h4⟩, h⟩ := xn_if h
      exact xj_new hd hf h1 h2 h3 h4 (hk _ _ _ _ _ _ _ _ h)
    | b9 + 1, hf, h =>
      obtain ⟨⟨⟨h1, h2⟩, ⟨h3, h4⟩, h5⟩, h⟩ := xn_if h
      cases h
      subst h5
      have h0 : xp_hh P M = [] := by
        have hlen := (hOK.2 M hM).2.2.2.2.1
        rw [show (xp_I P M).2.2.2.2.2.1 = [] from h2] at hlen
        exact List.length_eq_zero_iff.mp hlen.symm
      exact xj_throw hOK.1 hd hf h1 h0 h3 h4
  | newarray t =>
    obtain ⟨rfl, h1, h2, h3⟩ := hs
    obtain ⟨n, rs, rfl, h⟩ := xn_i1 h
    obtain ⟨⟨⟨h4, h5, h6⟩, h7, h8⟩, h⟩ := xn_if h
    exact xj_newarray hd h1 h2 h3 h4 h5 h6 h7 h8 (hk _ _ _ _ _ _ _ _ h)
  | ireturn =>
    obtain rfl : len = 1 := hs
    simp only [xr_exec] at h
    split at h
    · split at h
      · rename_i t ht
        obtain ⟨hf, h⟩ := xn_if h
        cases h
        exact xj_ireturn hd ht hf
      · cases h
    · cases h
  | lreturn =>
    obtain rfl : len = 1 := hs
    simp only [xr_exec] at h
    split at h
    · split at h
      · rename_i ht
        cases h
        exact xj_lreturn hd ht
      · cases h
    · cases h
  | return_ =>
    obtain rfl : len = 1 := hs
    simp only [xr_exec] at h
    split at h
    · split at h
      · rename_i ht
        cases h
        exact xj_return hd ht
      · cases h
    · cases h
  | invokevirtual n =>
    obtain ⟨rfl, hs⟩ := hs
    exact xr_inv_ok hOK hk hd (Or.inl ⟨rfl, rfl⟩) hs h
  | invokespecial n =>
    obtain ⟨rfl, hs⟩ := hs
    exact xr_inv_ok hOK hk hd (Or.inr (Or.inl ⟨rfl, rfl⟩)) hs h
  | invokestatic n =>
    obtain ⟨rfl, hs⟩ := hs
    exact xr_inv_ok hOK hk hd (Or.inr (Or.inr ⟨rfl, rfl⟩)) hs h
  | _ =>
    replace h : (none : Option xr_R) = some r := h
    cases h
theorem xr_step_ok {P : xr_P} {l : Launch} {g : xr_G} {k : xr_K → Option xr_R} (hOK : xr_OK P) (hk : xr_Go P l g k) : xr_Go P l g (xr_step (xg_sc g) (xp_B P) (xp_t P) k) := by
  intro M ce sl pc lv st ws r h p e s m args below meth c H locs ls ad ad0 n0 cx lo hl hA hS
  have hM := xc_N cx
  replace h : (match xr_find pc (xp_B P M).1 with
    | none => none
    | some (_, i, a, b, v, tab, live) => xr_exec (xg_sc g) (xp_B P) (xp_t P) k M (xp_B P M).1 (xp_B P M).2 ce sl pc (xr_keep live lv) st ws i a b v tab) = some r := h
  split at h
  · cases h
  · rename_i len i a b v tab live hf
    obtain ⟨hd, hs⟩ := (hOK.2 M hM).1 _ (xr_find_mem hf)
    exact xj_keep (live := live) (xr_exec_ok hOK hk hM hd hs h) p e s m args below meth c H locs ls ad ad0 n0 cx lo hl hA hS
/-- WHAT THE RUN ANSWERS, THE MACHINE DOES -/
theorem xr_sound {P : xr_P} {l : Launch} {g : xr_G} (hOK : xr_OK P) : ∀ n : Nat, xr_Go P l g (xr_run (xg_sc g) (xp_B P) (xp_t P) n)
  | 0 => fun _ _ _ _ _ _ _ _ h => by cases h
  | n + 1 => xr_step_ok hOK (xr_sound hOK n)
