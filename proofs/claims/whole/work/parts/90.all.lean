/-! ALL CASES TOGETHER. -/
theorem wp_pure (L : Nat) (xs : Nat → Int32) (hL : L ≤ 2048) : ∃ n N : Nat, xf_law (L, xs) n N (fun _ _ => 0) (fun _ _ => 0) (fun _ _ => 0) 78 42406 0 = some 1 := by
  have key : ∀ n, 1300 ≤ n → ∀ N, 513 ≤ N → xf_law (L, xs) n N (fun _ _ => 0) (fun _ _ => 0) (fun _ _ => 0) 78 42406 (Int32.ofNat (4 * 0)) = some 1 := by
    intro n hn N hN
    exact wp_loop (sc := (L, xs)) hL (n := n) (I := wi_I) (wc_0 (by omega)) wc_1 wc_2 (wc_3 (by omega)) (wc_4 (by omega)) (wc_5 (by omega)) (wc_6 (by omega)) wc_7 (wc_8 (by omega)) (wc_9 (by omega)) (wc_10 (by omega)) (wc_11 (by omega)) (wc_12 (by omega)) (wc_13 (by omega)) (wc_14 (by omega)) (wc_15 (by omega)) (wc_16 (by omega)) (wc_17 (by omega)) (wc_18 (by omega)) wc_19 N 0 (fun _ _ => 0) (fun _ _ => 0) (fun _ _ => 0) 78 42406 wi_zero (by omega) (by omega) (by omega) (by omega)
  have e : (0 : Int32) = Int32.ofNat (4 * 0) := by decide
  rw [e]
  exact ⟨1300, 513, key 1300 (by omega) 513 (by omega)⟩
