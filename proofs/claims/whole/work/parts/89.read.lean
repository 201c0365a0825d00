/-! READ. -/
def wz_cnt (P : Nat → Bool) : Nat → Nat
  | 0 => 0
  | k + 1 => wz_cnt P k + (if P k = true then 1 else 0)
theorem wz_cnt0 {P : Nat → Bool} : ∀ n, (∀ j, j < n → P j = false) → wz_cnt P n = 0 := by
  intro n
  induction n with
  | zero => intro _; rfl
  | succ n ih =>
    intro h
    rw [wz_cnt, ih (fun j hj => h j (by omega)), h n (by omega)]
    rfl
theorem wz_cnt1 {P P' : Nat → Bool} {j0 : Nat} (h0 : P j0 = false) : ∀ n, (∀ j, j < n → P' j = (P j || decide (j = j0))) → wz_cnt P' n = wz_cnt P n + (if j0 < n then 1 else 0) := by
  intro n
  induction n with
  | zero => intro _; rfl
  | succ n ih =>
    intro h
    rw [wz_cnt, wz_cnt, ih (fun j hj => h j (by omega)), h n (by omega)]
    by_cases e : n = j0
    · rw [e, h0, decide_eq_true rfl, if_neg (by omega : ¬ j0 < j0), if_pos (by omega : j0 < j0 + 1), Bool.or_true, if_pos rfl, if_neg (by simp)]
    · rw [decide_eq_false e, Bool.or_false]
      by_cases hl : j0 < n
      · rw [if_pos hl, if_pos (by omega : j0 < n + 1)]
        omega
      · rw [if_neg hl, if_neg (by omega : ¬ j0 < n + 1)]
        omega
/-- how many lines have a smaller number -/
theorem wz_rank {r : Nat} {oo a : Nat → Nat} {number order : Nat → Int32} (hO : wz_O r oo a number order) : ∀ p, p < r → wz_cnt (fun j => decide (a j < a (oo p))) r = p := by
  obtain ⟨hr, O1, O2, O3, O4⟩ := hO
  have lt : ∀ p q, p < r → q < r → (a (oo p) < a (oo q) ↔ p < q) := by
    intro p q hp hq
    constructor
    · intro h
      apply Classical.byContradiction
      intro hc
      by_cases e : p = q
      · rw [e] at h
        omega
      · have := O3 q p (by omega) hp
        omega
    · intro h
      exact O3 p q h hq
  have inj : ∀ p q, p < r → q < r → oo p = oo q → p = q := by
    intro p q hp hq h
    have h1 := lt p q hp hq
    have h2 := lt q p hq hp
    rw [h] at h1 h2
    omega
  intro p
  induction p with
  | zero =>
    intro hp
    apply wz_cnt0
    intro j hj
    obtain ⟨q, hq, rfl⟩ := O4 j hj
    apply decide_eq_false
    intro h
    have := (lt q 0 hq hp).mp h
    omega
  | succ p ih =>
    intro hp
    have h0 : (fun j => decide (a j < a (oo p))) (oo p) = false := decide_eq_false (by omega)
    have key := wz_cnt1 (P := fun j => decide (a j < a (oo p))) (P' := fun j => decide (a j < a (oo (p + 1)))) h0 r (fun j hj => by
      obtain ⟨q, hq, rfl⟩ := O4 j hj
      show decide (a (oo q) < a (oo (p + 1))) = (decide (a (oo q) < a (oo p)) || decide (oo q = oo p))
      by_cases e : q = p
      · rw [e, decide_eq_true ((lt p (p + 1) (by omega) hp).mpr (by omega)), decide_eq_true (rfl : oo p = oo p), Bool.or_true]
      · have ne : ¬ oo q = oo p := fun h => e (inj q p hq (by omega) h)
        rw [decide_eq_false ne, Bool.or_false]
        by_cases hl : q < p
        · rw [decide_eq_true ((lt q (p + 1) hq hp).mpr (by omega)), decide_eq_true ((lt q p hq (by omega)).mpr hl)]
        · rw [decide_eq_false (fun h => hl (by have := (lt q (p + 1) hq hp).mp h; omega)), decide_eq_false (fun h => hl ((lt q p hq (by omega)).mp h))])
    rw [key, ih (by omega), if_pos (O2 p (by omega)).1]
section
variable {r u : Nat} {oo a z m t c s : Nat → Nat} {name : Nat → Int64} {number order size sort value start items numbers letters names parts sorts values ritems lines : Nat → Int32}
/-- the reference takes the lines over, in the order of their numbers -/
theorem wz_rcopy (hO : wz_O r oo a number order) (hn : ∀ j, j < r → numbers (40 + j) = Int32.ofNat (a j)) (hl : lines 1 = Int32.ofNat r) {N : Nat} (hN : 1300 ≤ N) (text : Nat → Int32) (at_ f fr sz th : Int32) :
    ∀ l j M (ri le na nu pa so va : Nat → Int32), j + l = r → l < M → (∀ y, 40 ≤ y → le y = letters y ∧ nu y = numbers y ∧ pa y = parts y) → (∀ y, 320 ≤ y → na y = names y ∧ so y = sorts y ∧ va y = values y) → (∀ y, 6400 ≤ y → ri y = ritems y) →
    (∀ p, p < r → oo p < j → le p = letters (40 + oo p) ∧ nu p = numbers (40 + oo p) ∧ pa p = parts (40 + oo p) ∧ (∀ k, k < 8 → na (8 * p + k) = names (320 + 8 * oo p + k) ∧ so (8 * p + k) = sorts (320 + 8 * oo p + k) ∧ va (8 * p + k) = values (320 + 8 * oo p + k)) ∧ ∀ k, k < 160 → ri (160 * p + k) = ritems (6400 + 160 * oo p + k)) →
    ∃ (ri' le' na' nu' pa' so' va' : Nat → Int32), (∀ y, 40 ≤ y → le' y = letters y ∧ nu' y = numbers y ∧ pa' y = parts y) ∧ (∀ y, 320 ≤ y → na' y = names y ∧ so' y = sorts y ∧ va' y = values y) ∧ (∀ y, 6400 ≤ y → ri' y = ritems y) ∧
      (∀ p, p < r → le' p = letters (40 + oo p) ∧ nu' p = numbers (40 + oo p) ∧ pa' p = parts (40 + oo p) ∧ (∀ k, k < 8 → na' (8 * p + k) = names (320 + 8 * oo p + k) ∧ so' (8 * p + k) = sorts (320 + 8 * oo p + k) ∧ va' (8 * p + k) = values (320 + 8 * oo p + k)) ∧ ∀ k, k < 160 → ri' (160 * p + k) = ritems (6400 + 160 * oo p + k)) ∧
      xf_rf_read_115 text N M at_ f fr ri le lines na nu pa sz so th va (Int32.ofNat (40 + j)) = some (lines 0, at_, f, fr, ri', le', lines, na', nu', pa', Int32.ofNat 0, so', th, va') := by
  have hr := hO.1
  have rank := wz_rank hO
  obtain ⟨_, O1, O2, O3, O4⟩ := id hO
  intro l
  induction l with
  | zero =>
    intro j M ri le na nu pa so va hj hM f1 f2 f3 h
    obtain ⟨M', rfl⟩ : ∃ M', M = M' + 1 := ⟨M - 1, by omega⟩
    refine ⟨ri, le, na, nu, pa, so, va, f1, f2, f3, fun p hp => h p hp (by have := (O2 p hp).1; omega), ?_⟩
    simp (disch := omega) only [↓xf_rf_read_115_s, wq_ltT, wq_ltF, wq_inT, wq_clamp, wq_eqF, wq_eqm, wq_meq, wq_add, wq_mul, wq_subT, eq_self, Bool.false_eq_true, ↓reduceIte, Option.bind_some, Sum.elim_inl, Sum.elim_inr, ↓wq_f0b, ↓wq_f1b, ↓wq_f2b, ↓wq_r0b, ↓wq_r1b, ↓Option.bind_some, hl]
  | succ l ih =>
    intro j M ri le na nu pa so va hj hM f1 f2 f3 h
    obtain ⟨M', rfl⟩ : ∃ M', M = M' + 1 := ⟨M - 1, by omega⟩
    obtain ⟨p0, hp0, hp0j⟩ := O4 j (by omega)
    -- the rank
    have count : ∀ x j' Mx (k115 : _), j' + x = r → x < Mx → xf_rf_read_133 text k115 N Mx at_ f fr ri le lines na nu pa sz so th va (Int32.ofNat (40 + j)) (Int32.ofNat (wz_cnt (fun i => decide (a i < a j)) j')) (Int32.ofNat (40 + j')) = (xf_rf_copy N ri le na nu pa so va (Int32.ofNat (wz_cnt (fun i => decide (a i < a j)) r)) (Int32.ofNat (40 + j))).bind fun q744 => k115 at_ f fr q744.2.1 q744.2.2.1 lines q744.2.2.2.1 q744.2.2.2.2.1 q744.2.2.2.2.2.1 sz q744.2.2.2.2.2.2.1 th q744.2.2.2.2.2.2.2 (Int32.ofNat (40 + j + 1)) := by
      intro x
      induction x with
      | zero =>
        intro j' Mx k115 hj' hMx
        obtain ⟨M2, rfl⟩ : ∃ M', Mx = M' + 1 := ⟨Mx - 1, by omega⟩
        have e : j' = r := by omega
        rw [e, xf_rf_read_133_s]
        simp (disch := omega) only [wq_ltT, wq_ltF, wq_inT, wq_clamp, wq_eqF, wq_eqm, wq_meq, wq_add, wq_mul, wq_subT, eq_self, Bool.false_eq_true, ↓reduceIte, Option.bind_some, Sum.elim_inl, Sum.elim_inr, ↓wq_f0b, ↓wq_f1b, ↓wq_f2b, ↓wq_r0b, ↓wq_r1b, ↓Option.bind_some, hl]
      | succ x ihx =>
        intro j' Mx k115 hj' hMx
        obtain ⟨M2, rfl⟩ : ∃ M', Mx = M' + 1 := ⟨Mx - 1, by omega⟩
        have n1 : nu (40 + j') = Int32.ofNat (a j') := (f1 (40 + j') (by omega)).2.1.trans (hn j' (by omega))
        have n2 : nu (40 + j) = Int32.ofNat (a j) := (f1 (40 + j) (by omega)).2.1.trans (hn j (by omega))
        have b1 := (O1 j' (by omega)).2.2
        have b2 := (O1 j (by omega)).2.2
        rw [← ihx (j' + 1) M2 k115 (by omega) (by omega), xf_rf_read_133_s, wz_cnt]
        by_cases hlt : a j' < a j
        · rw [decide_eq_true hlt, if_pos rfl]
          simp (disch := omega) only [wq_ltT, wq_ltF, wq_inT, wq_clamp, wq_eqF, wq_eqm, wq_meq, wq_add, wq_mul, wq_subT, eq_self, Bool.false_eq_true, ↓reduceIte, Option.bind_some, Sum.elim_inl, Sum.elim_inr, ↓wq_f0b, ↓wq_f1b, ↓wq_f2b, ↓wq_r0b, ↓wq_r1b, ↓Option.bind_some, hl, n1, n2, ↓xf_rf_read_167_s, Nat.add_assoc]
        · rw [decide_eq_false hlt, if_neg (show ¬ (false = true) by simp)]
          simp (disch := omega) only [wq_ltT, wq_ltF, wq_inT, wq_clamp, wq_eqF, wq_eqm, wq_meq, wq_add, wq_mul, wq_subT, eq_self, Bool.false_eq_true, ↓reduceIte, Option.bind_some, Sum.elim_inl, Sum.elim_inr, ↓wq_f0b, ↓wq_f1b, ↓wq_f2b, ↓wq_r0b, ↓wq_r1b, ↓Option.bind_some, hl, n1, n2, ↓xf_rf_read_167_s, Nat.add_assoc, Nat.add_zero]
    have rk : wz_cnt (fun i => decide (a i < a j)) r = p0 := by
      rw [← hp0j]
      exact rank p0 hp0
    have cnt0 := count r 0 N (xf_rf_read_115 text N M') (by omega) (by omega)
    have cp := wq_copy (N := N) (d := p0) (e := 40 + j) (by omega) (by omega) (by omega) ri le na nu pa so va
    rw [rk, cp, Option.bind_some] at cnt0
    have step : xf_rf_read_115 text N (M' + 1) at_ f fr ri le lines na nu pa sz so th va (Int32.ofNat (40 + j)) = xf_rf_read_115 text N M' at_ f fr (va_cpy ri ri (160 * (40 + j)) (160 * p0) 160) (upd le p0 (le (40 + j))) lines (va_cpy na na (8 * (40 + j)) (8 * p0) 8) (upd nu p0 (nu (40 + j))) (upd pa p0 (pa (40 + j))) sz (va_cpy so so (8 * (40 + j)) (8 * p0) 8) th (va_cpy va va (8 * (40 + j)) (8 * p0) 8) (Int32.ofNat (40 + (j + 1))) := by
      rw [← Nat.add_assoc, xf_rf_read_115_s]
      simp (disch := omega) only [wq_ltT, wq_ltF, wq_inT, wq_clamp, wq_eqF, wq_eqm, wq_meq, wq_add, wq_mul, wq_subT, eq_self, Bool.false_eq_true, ↓reduceIte, Option.bind_some, Sum.elim_inl, Sum.elim_inr, ↓wq_f0b, ↓wq_f1b, ↓wq_f2b, ↓wq_r0b, ↓wq_r1b, ↓Option.bind_some, hl]
      exact cnt0
    have oj : ∀ p, p < r → oo p = j → p = p0 := by
      intro p hp e
      apply Classical.byContradiction
      intro hne
      have e2 : a (oo p) = a (oo p0) := by rw [e, hp0j]
      by_cases hl : p < p0
      · have := O3 p p0 hl hp0
        omega
      · have := O3 p0 p (by omega) hp
        omega
    rw [step]
    apply ih (j + 1) M' _ _ _ _ _ _ _ (by omega) (by omega)
    · intro y hy
      rw [wq_upd2 (by omega), wq_upd2 (by omega), wq_upd2 (by omega)]
      exact f1 y hy
    · intro y hy
      rw [wq_cpyE (by omega), wq_cpyE (by omega), wq_cpyE (by omega)]
      exact f2 y hy
    · intro y hy
      rw [wq_cpyE (by omega)]
      exact f3 y hy
    · intro p hp hpj
      by_cases e : p = p0
      · subst e
        rw [wq_upd1, wq_upd1, wq_upd1, hp0j]
        obtain ⟨g1, g2, g3⟩ := f1 (40 + j) (by omega)
        refine ⟨g1, g2, g3, fun k hk => ?_, fun k hk => ?_⟩
        · rw [wq_cpyI hk, wq_cpyI hk, wq_cpyI hk, show 8 * (40 + j) + k = 320 + 8 * j + k by omega]
          exact f2 _ (by omega)
        · rw [wq_cpyI hk, show 160 * (40 + j) + k = 6400 + 160 * j + k by omega]
          exact f3 _ (by omega)
      · have hpj2 : oo p < j := by
          have : ¬ oo p = j := fun hh => e (oj p hp hh)
          omega
        obtain ⟨g1, g2, g3, g4, g5⟩ := h p hp hpj2
        refine ⟨by rw [wq_upd2 e]; exact g1, by rw [wq_upd2 e]; exact g2, by rw [wq_upd2 e]; exact g3, fun k hk => ?_, fun k hk => ?_⟩
        · rw [wq_cpyE (by omega), wq_cpyE (by omega), wq_cpyE (by omega)]
          exact g4 k hk
        · rw [wq_cpyE (by omega)]
          exact g5 k hk
end
/-- what was held stays held -/
theorem wz_kept {ri le li na nu pa so va ri' le' li' na' nu' pa' so' va' : Nat → Int32} (h : wz_N ri le li na nu pa so va ri' le' li' na' nu' pa' so' va') :
    (fun p => nu' (80 + p)) = (fun p => nu (80 + p)) ∧ (fun p => le' (80 + p)) = (fun p => le (80 + p)) ∧ (fun i => na' (640 + i)) = (fun i => na (640 + i)) ∧ (fun p => pa' (80 + p)) = (fun p => pa (80 + p)) ∧ (fun k => so' (640 + k)) = (fun k => so (640 + k)) ∧ (fun k => va' (640 + k)) = (fun k => va (640 + k)) ∧ (fun i => ri' (12800 + i)) = (fun i => ri (12800 + i)) ∧ li' 2 = li 2 := by
  obtain ⟨h1, h2, h3, h4⟩ := h
  refine ⟨funext (fun p => (h1 _ (by omega)).2.1), funext (fun p => (h1 _ (by omega)).1), funext (fun p => (h2 _ (by omega)).1), funext (fun p => (h1 _ (by omega)).2.2), funext (fun p => (h2 _ (by omega)).2.1), funext (fun p => (h2 _ (by omega)).2.2), funext (fun p => h3 _ (by omega)), h4 2 (by omega)⟩
theorem wz_model {A : wp_A} {L : wp_L} {S : wp_A} {ri' le' li' na' nu' pa' so' va' : Nat → Int32} (h : wz_N (A 73) (A 68) (A 66) (A 69) (A 67) (A 70) (A 71) (A 72) ri' le' li' na' nu' pa' so' va') (hm : ∃ n R u o a z m t c s, wi_Model A L S n R u o a z m t c s) :
    ∃ n R u o a z m t c s, wi_V n a z m t c (li' 0) nu' le' na' pa' so' va' ri' ∧ wi_M n R u o a z m t c s (S 15 0) (S 15 1) (S 15 2) (A 16) (L 17) (A 18) (A 19) (A 20) (A 21) (A 22) (A 23) na' va' ri' ∧ wi_G n o (wi_ref a z t c va' ri') (L 43) (L 44) (A 45) ∧ wi_L n a o (wi_al n a z m t c na' va' ri') (A 45) (S 42 5) (A 47) := by
  obtain ⟨n, R, u, o, a, z, m, t, c, s, hV, hM, hG, hL⟩ := hm
  obtain ⟨h1, h2, h3, h4⟩ := h
  obtain ⟨⟨n1, n2⟩, _, _, v4, v5, v6⟩ := id hV
  have hz : ∀ p, p < n → z p ≤ 8 ∧ m p ≤ 8 := fun p hp => ⟨(v5 p hp).2.2, (v4 p hp).2.2.1⟩
  have hc : ∀ p k, p < n → k < z p → c p k ≤ 20 := fun p k hp hk => (v6 p k hp hk).2.2.1
  have e1 : ∀ p, p < n → nu' p = A 67 p := fun p hp => (h1 p (by omega)).2.1
  have e2 : ∀ p, p < n → le' p = A 68 p := fun p hp => (h1 p (by omega)).1
  have e3 : ∀ j, j < 8 * n → na' j = A 69 j := fun j hj => (h2 j (by omega)).1
  have e4 : ∀ p, p < n → pa' p = A 70 p := fun p hp => (h1 p (by omega)).2.2
  have e5 : ∀ j, j < 8 * n → so' j = A 71 j := fun j hj => (h2 j (by omega)).2.1
  have e6 : ∀ j, j < 8 * n → va' j = A 72 j := fun j hj => (h2 j (by omega)).2.2
  have e7 : ∀ j, j < 160 * n → ri' j = A 73 j := fun j hj => h3 j (by omega)
  refine ⟨n, R, u, o, a, z, m, t, c, s, ?_, wi_M_congr hz hc (fun _ _ => rfl) (fun _ _ => rfl) (fun _ _ => rfl) (fun _ _ => rfl) (fun _ _ => rfl) (fun _ _ => rfl) (fun _ _ => rfl) (fun _ _ => rfl) e3 e6 e7 hM, wi_G_congr (fun p q hp _ => wi_ref_congr (a := a) (t := t) (q := q) (fun p hp => (hz p hp).1) hc e6 e7 hp) hG, ?_⟩
  · rw [h4 0 (by omega)]
    exact wi_V_congr e1 e2 e3 e4 e5 e6 e7 hV
  · rcases hL with hL | ⟨h, l1, l2⟩
    · exact Or.inl hL
    · refine Or.inr ⟨h, wi_h_congr (fun p q hp hq => ⟨fun H => ?_, fun H => ?_⟩) l1, l2⟩
      · exact wi_al_congr1 hz hc e3 e6 e7 hp hq H
      · exact wi_al_congr1 hz hc (fun j hj => (e3 j hj).symm) (fun j hj => (e6 j hj).symm) (fun j hj => (e7 j hj).symm) hp hq H
theorem wc_4 {sc : Nat × (Nat → Int32)} {N : Nat} (hN : 1300 ≤ N) : wp_Ok sc wi_I (xf_law_4 sc N) := by
  apply wp_red_4
  intro A L S hI
  obtain ⟨⟨E, t1, t2, t3, t4⟩, hKd, hm, ⟨nk, Rk, uk, ok, ak, zk, mk, tk, ck, sk, hkV, hkM⟩⟩ := id hI
  have hX : wt_X E (fun j => (A 2 j).toNatClampNeg) (A 2) (A 58) := by
    refine ⟨t1, fun j hj => ?_⟩
    obtain ⟨a1, k, k1, k2, k3⟩ := t4 j hj
    show A 2 j = Int32.ofNat (A 2 j).toNatClampNeg ∧ A 58 j = Int32.ofNat (A 2 j).toNatClampNeg ∧ 32 ≤ (A 2 j).toNatClampNeg ∧ (A 2 j).toNatClampNeg ≤ 126
    rw [a1, k3, wq_clamp (by omega)]
    exact ⟨rfl, rfl, k1, k2⟩
  obtain ⟨T, b, st, o, begin', digits', end', first', hTok, hsp⟩ := wt_split (signs := A 2) t1 (fun j hj => ⟨(hX.2 j hj).1, (hX.2 j hj).2.2⟩) hN false (A 51) (A 54) (A 52) (A 53) (S 50 6) (S 50 5)
  have fl : wt_fl false = Int32.ofNat 0 := rfl
  rw [fl] at hsp
  have hs0 := wt_st_le hTok (i := 0) (by omega)
  have st0 : st 0 = 0 := hTok.1.1.1
  have O0 : wz_O 0 (fun _ => 0) (fun _ => 0) (A 25) (A 28) := ⟨by omega, fun j hj => absurd hj (by omega), fun p hp => absurd hp (by omega), fun p q _ hq => absurd hq (by omega), fun j hj => absurd hj (by omega)⟩
  have D0 : wz_D 0 0 (fun _ => 0) (fun _ => 0) (fun _ => 0) (fun _ => 0) (fun _ => 0) (fun _ => 0) (L 26) (A 27) (A 29) (A 30) (A 31) (A 32) (A 67) (A 68) (A 69) (A 70) (A 71) (A 72) (A 73) := ⟨fun j hj => absurd hj (by omega), fun j k j' k' hj => absurd hj (by omega)⟩
  obtain ⟨ri, le, li, na, nu, pa, so, va, fr', at', i', nm2, nb2, or2, sz2, so2, va2, st2, it2, j1, hN1, j3⟩ := wz_all hX hTok hN (Int32.ofNat 0) 40 0 0 0 0 N N (fun _ => 0) (fun _ => 0) (fun _ => 0) (fun _ => 0) (fun _ => 0) (fun _ => 0) (fun _ => 0) (L 26) (A 25) (A 28) (A 27) (A 29) (A 30) (A 31) (A 32) (A 67) (A 68) (A 69) (A 70) (A 71) (A 72) (A 73) (upd (A 66) 1 (Int32.ofNat 0)) (S 57 20) (by omega) (by omega) (by omega) (by omega) (by omega) (by omega) (by omega) O0 D0 wq_upd1
  have hN2 : wz_N (A 73) (A 68) (A 66) (A 69) (A 67) (A 70) (A 71) (A 72) ri le li na nu pa so va := by
    obtain ⟨a1, a2, a3, a4⟩ := hN1
    exact ⟨a1, a2, a3, fun y hy => by rw [a4 y hy, wq_upd2 hy]⟩
  rw [t2, t3]
  have hb := wt_b_le hTok j1
  obtain ⟨k1, k2, k3, k4, k5, k6, k7, k8⟩ := wz_kept hN2
  -- nothing is taken over
  have same : ∃ n R u o a z m t c s, wi_V n a z m t c (li 0) nu le na pa so va ri ∧ wi_M n R u o a z m t c s (S 15 0) (S 15 1) (S 15 2) (A 16) (L 17) (A 18) (A 19) (A 20) (A 21) (A 22) (A 23) na va ri ∧ wi_G n o (wi_ref a z t c va ri) (L 43) (L 44) (A 45) ∧ wi_L n a o (wi_al n a z m t c na va ri) (A 45) (S 42 5) (A 47) := wz_model hN2 hm
  have Kp : wi_V nk ak zk mk tk ck (li 2) (fun p => nu (80 + p)) (fun p => le (80 + p)) (fun i => na (640 + i)) (fun p => pa (80 + p)) (fun k => so (640 + k)) (fun k => va (640 + k)) (fun i => ri (12800 + i)) ∧
      wi_M nk Rk uk ok ak zk mk tk ck sk (S 33 0) (S 33 1) (S 33 2) (A 34) (L 35) (A 36) (A 37) (A 38) (A 39) (A 40) (A 41) (fun i => na (640 + i)) (fun k => va (640 + k)) (fun i => ri (12800 + i)) := by
    rw [k1, k2, k3, k4, k5, k6, k7, k8]
    exact ⟨hkV, hkM⟩
  have rd : xf_rf_read (A 58) N (S 57 18) (S 57 19) (S 57 20) (A 73) (A 68) (A 66) (A 69) (A 67) (A 70) (Int32.ofNat E) (A 71) (S 57 0) (A 72) = xf_rf_read_22 (A 58) N N (Int32.ofNat 0) (-1) (S 57 20) (A 73) (A 68) (upd (A 66) 1 (Int32.ofNat 0)) (A 69) (A 67) (A 70) (Int32.ofNat E) (A 71) (Int32.ofNat 0) (A 72) := by
    rw [xf_rf_read_s, wq_clamp (by omega)]
  have ra : xf_mr_readAll (Int32.ofNat E) (A 2) N (A 32) (S 24 1) (L 26) (A 25) (A 28) (S 24 0) (A 27) (A 29) (A 31) (S 24 2) (A 30) (A 51) (A 54) (A 52) (A 53) (S 50 6) (S 50 5) = xf_mr_readAll_17 (Int32.ofNat E) (A 2) N N (A 32) (Int32.ofNat 0) (L 26) (A 25) (A 28) (Int32.ofNat 0) (A 27) (A 29) (A 31) (Int32.ofNat 0) (A 30) begin' digits' end' first' (Int32.ofNat 0) (Int32.ofNat T) (Int32.ofNat 0) := by
    rw [xf_mr_readAll_s, xf_md_clear_s, Option.bind_some, hsp, Option.bind_some]
  rcases j3 with ⟨r, u, oo, a, z, m, t, c, s, hu, hli, hO, hD, c1, c2⟩ | ⟨li', ro', us', c1, c2⟩
  · have hr := hO.1
    rw [← ra] at c1
    rcases wz_first hO hD hli hu hN (A 58) at' fr' (Int32.ofNat E) (Int32.ofNat 0) with ⟨j, hj, f1, f2⟩ | ⟨hno, f1, f2⟩
    · -- a line is missing
      have aj := (hO.2.1 j hj).2
      have h1 : xf_xt_read (A 2) N (A 45) (L 43) (S 42 5) (L 44) (A 23) (S 15 1) (L 17) (A 16) (A 19) (S 15 0) (A 18) (A 20) (A 22) (S 15 2) (A 21) (A 51) (A 54) (A 52) (A 53) (S 50 6) (S 50 5) (A 32) (S 24 1) (L 26) (A 25) (A 28) (S 24 0) (A 27) (A 29) (A 31) (S 24 2) (A 30) (S 1 2) (Int32.ofNat E) = some ((-10000 : Int32) - Int32.ofNat (a j), A 45, L 43, S 42 5, L 44, A 23, S 15 1, L 17, A 16, A 19, S 15 0, A 18, A 20, A 22, S 15 2, A 21, begin', digits', end', first', Int32.ofNat i', Int32.ofNat T, it2, Int32.ofNat r, nm2, nb2, or2, Int32.ofNat r, sz2, so2, st2, Int32.ofNat u, va2, S 1 2, Int32.ofNat E) := by
        simp (disch := omega) only [↓xf_xt_read_s, wq_ltT, wq_ltF, wq_inT, wq_clamp, wq_eqF, wq_eqm, wq_meq, wq_add, wq_mul, wq_subT, eq_self, Bool.false_eq_true, ↓reduceIte, Option.bind_some, Sum.elim_inl, Sum.elim_inr, ↓wq_f0b, ↓wq_f1b, ↓wq_f2b, ↓wq_r0b, ↓wq_r1b, ↓Option.bind_some, ↓wq_b c1, ↓wq_b f1]
      have h2 := rd.trans (c2.trans f2)
      exact ⟨_, _, h1, h2, rfl, ⟨⟨E, t1, rfl, rfl, t4⟩, hKd, same, ⟨nk, Rk, uk, ok, ak, zk, mk, tk, ck, sk, Kp⟩⟩⟩
    · -- the lines are taken over
      obtain ⟨D1, D2⟩ := id hD
      obtain ⟨_, O1, O2, O3, O4⟩ := id hO
      obtain ⟨ri', le', na', nu', pa', so', va', g1, g2, g3, g4, g5⟩ := wz_rcopy (letters := le) (names := na) (numbers := nu) (parts := pa) (sorts := so) (values := va) (ritems := ri) (lines := upd li 0 (li 1)) hO (fun j hj => (D1 j hj).1) (by rw [wq_upd2 (by omega)]; exact hli) hN (A 58) at' (-1) fr' (Int32.ofNat E) (Int32.ofNat 0) r 0 N ri le na nu pa so va (by omega) (by omega) (fun _ _ => ⟨rfl, rfl, rfl⟩) (fun _ _ => ⟨rfl, rfl, rfl⟩) (fun _ _ => rfl) (fun p hp hh => absurd hh (by omega))
      rw [wq_upd1, hli] at g5
      rw [hli] at f2
      have h2 := rd.trans (c2.trans (f2.trans g5))
      -- the values of an argument
      have pv : ∀ p k, p < r → k < z (oo p) → z (oo p) ≤ 8 ∧ so' (8 * p + k) = so (320 + (oo p * 8 + k)) ∧ va' (8 * p + k) = va (320 + (oo p * 8 + k)) ∧ ∀ i, i < 20 → ri' (20 * (8 * p + k) + i) = ri (6400 + 20 * (oo p * 8 + k) + i) := by
        intro p k hp hk
        have z8 := (D1 (oo p) (O2 p hp).1).2.2.2.2.2.2.2.2.2.1
        obtain ⟨_, _, _, e4, e5⟩ := g4 p hp
        obtain ⟨_, e6, e7⟩ := e4 k (by omega)
        rw [show 320 + 8 * oo p + k = 320 + (oo p * 8 + k) by omega] at e6 e7
        refine ⟨z8, e6, e7, fun i hi => ?_⟩
        have := e5 (20 * k + i) (by omega)
        rw [show 160 * p + (20 * k + i) = 20 * (8 * p + k) + i by omega, show 6400 + 160 * oo p + (20 * k + i) = 6400 + 20 * (oo p * 8 + k) + i by omega] at this
        exact this
      have fnd : ∀ v : Int32, (¬ ∀ j, j < r → ¬ Int32.ofNat (a j) = v) → ∃ q, q < r ∧ v = Int32.ofNat (a (oo q)) := by
        intro v hv
        apply Classical.byContradiction
        intro hc
        apply hv
        intro j hj hh
        obtain ⟨q, hq, rfl⟩ := O4 j hj
        exact hc ⟨q, hq, hh.symm⟩
      have V' : wi_V r (fun p => a (oo p)) (fun p => z (oo p)) (fun p => m (oo p)) (fun p k => t (oo p * 8 + k)) (fun p k => c (oo p * 8 + k)) (Int32.ofNat r) nu' le' na' pa' so' va' ri' := by
        refine ⟨⟨hr, rfl⟩, fun p hp => ?_, fun p q hpq hq => O3 p q hpq hq, fun p hp => ?_, fun p hp => ?_, fun p k hp hk => ?_⟩
        · obtain ⟨e1, e2, e3, e4, e5⟩ := g4 p hp
          have o1 := (O2 p hp).1
          rw [e2, (D1 (oo p) o1).1]
          exact ⟨rfl, (O1 (oo p) o1).2⟩
        · obtain ⟨e1, e2, e3, e4, e5⟩ := g4 p hp
          obtain ⟨d1, d2, d3, d4, d5, d6, _⟩ := D1 (oo p) (O2 p hp).1
          rw [e1]
          refine ⟨d2, d3, d4, fun i hi => ?_⟩
          have hi' : i < m (oo p) := hi
          rw [(e4 i (by omega)).1]
          exact d5 i hi
        · obtain ⟨e1, e2, e3, e4, e5⟩ := g4 p hp
          obtain ⟨d1, d2, d3, d4, d5, d6, d7, d8, d9, d10, _⟩ := D1 (oo p) (O2 p hp).1
          rw [e3]
          exact ⟨d7, d9, d10⟩
        · have hk' : k < z (oo p) := hk
          obtain ⟨z8, e6, e7, e8⟩ := pv p k hp hk'
          obtain ⟨a1, a2, a3, a4, a5, a6, a7⟩ := (D1 (oo p) (O2 p hp).1).2.2.2.2.2.2.2.2.2.2 k hk'
          have nl := hno (oo p) k (O2 p hp).1 hk'
          obtain ⟨w1, w2, v0, v1, v2, v3, v4, v5, v6⟩ := a7
          have e8' : ∀ i, i < c (oo p * 8 + k) → (fun i => ri' (20 * (8 * p + k) + i)) i = ri (6400 + 20 * (oo p * 8 + k) + i) := fun i hi => e8 i (by omega)
          refine ⟨by rw [e6]; exact a2, ?_⟩
          show wi_v r (fun p => a (oo p)) (t (oo p * 8 + k)) (c (oo p * 8 + k)) (va' (8 * p + k)) (fun i => ri' (20 * (8 * p + k) + i))
          rw [e7]
          refine ⟨w1, w2, v0, fun e => ⟨(v1 e).1, fun i hi => ?_⟩, fun e => ⟨(v2 e).1, fnd _ (fun hh => nl (Or.inl ⟨e, hh⟩))⟩, fun e => ⟨(v3 e).1, (v3 e).2.1, fun i hi => ?_⟩, fun e => ⟨(v4 e).1, (v4 e).2.1, fun i hi => ?_⟩, fun e => ⟨(v5 e).1, (v5 e).2.1, fun i hi => ?_⟩, v6⟩
          · rw [e8' i hi]
            exact (v1 e).2 i hi
          · rw [e8' i hi]
            exact (v3 e).2.2 i hi
          · rw [e8' i hi]
            exact fnd _ (fun hh => nl (Or.inr ⟨e, i, hi, hh⟩))
          · rw [e8' i hi]
            exact (v5 e).2.2 i hi
      have inj : ∀ p q, p < r → q < r → oo p = oo q → p = q := by
        intro p q hp hq e
        apply Classical.byContradiction
        intro hne
        by_cases hl : p < q
        · have := O3 p q hl hq
          rw [e] at this
          omega
        · have := O3 q p (by omega) hp
          rw [e] at this
          omega
      have M0 : wi_M r r u oo (fun p => a (oo p)) (fun p => z (oo p)) (fun p => m (oo p)) (fun p k => t (oo p * 8 + k)) (fun p k => c (oo p * 8 + k)) (fun p k => s (oo p * 8 + k)) (Int32.ofNat r) (Int32.ofNat r) (Int32.ofNat u) nb2 nm2 sz2 or2 so2 va2 st2 it2 na' va' ri' := by
        refine ⟨⟨Nat.le_refl r, hr, hu, rfl, rfl, rfl⟩, fun p hp => ?_, inj, fun p k hp hk => ?_, fun p k q l hp hk hq hl hne hc1 hc2 => ?_⟩
        · obtain ⟨o1, o2⟩ := O2 p hp
          obtain ⟨e1, e2, e3, e4, e5⟩ := g4 p hp
          obtain ⟨d1, d2, d3, d4, d5, d6, d7, d8, d9, d10, _⟩ := D1 (oo p) o1
          refine ⟨o1, o2, (O1 (oo p) o1).1, d8, ?_⟩
          rw [d6]
          exact wq_pack_congr2 _ (fun i hi => ((e4 i (by omega)).1).symm)
        · have hk' : k < z (oo p) := hk
          obtain ⟨z8, e6, e7, e8⟩ := pv p k hp hk'
          obtain ⟨a1, a2, a3, a4, a5, a6, a7⟩ := (D1 (oo p) (O2 p hp).1).2.2.2.2.2.2.2.2.2.2 k hk'
          have c20 := a7.2.1
          refine ⟨a1, by rw [e7]; exact a3, fun _ => ⟨a4, a5, fun i hi => ?_⟩⟩
          have hi' : i < c (oo p * 8 + k) := hi
          rw [e8 i (by omega)]
          exact a6 i hi
        · have hk' : k < z (oo p) := hk
          have hl' : l < z (oo q) := hl
          have z8 := (pv p k hp hk').1
          have z8' := (pv q l hq hl').1
          have ne : oo p * 8 + k ≠ oo q * 8 + l := by
            intro e
            have e1 : oo p = oo q := by omega
            have := inj p q hp hq e1
            omega
          by_cases h : oo p * 8 + k < oo q * 8 + l
          · exact Or.inl (D2 (oo p) k (oo q) l (O2 p hp).1 hk' (O2 q hq).1 hl' h)
          · exact Or.inr (D2 (oo q) l (oo p) k (O2 q hq).1 hl' (O2 p hp).1 hk' (by omega))
      have hz : ∀ p, p < r → z (oo p) ≤ 8 ∧ m (oo p) ≤ 8 := fun p hp => ⟨(V'.2.2.2.2.1 p hp).2.2, (V'.2.2.2.1 p hp).2.2.1⟩
      have hc : ∀ p k, p < r → k < z (oo p) → c (oo p * 8 + k) ≤ 20 := fun p k hp hk => (V'.2.2.2.2.2 p k hp hk).2.2.1
      have M' : wi_M r r u oo (fun p => a (oo p)) (fun p => z (oo p)) (fun p => m (oo p)) (fun p k => t (oo p * 8 + k)) (fun p k => c (oo p * 8 + k)) (fun p k => s (oo p * 8 + k)) (Int32.ofNat r) (Int32.ofNat r) (Int32.ofNat u) (va_cpy nb2 (A 16) 0 0 r) (va_cpy nm2 (L 17) 0 0 r) (va_cpy sz2 (A 18) 0 0 r) (va_cpy or2 (A 19) 0 0 r) (va_cpy so2 (A 20) 0 0 (r * 8)) (va_cpy va2 (A 21) 0 0 (r * 8)) (va_cpy st2 (A 22) 0 0 (r * 8)) (va_cpy it2 (A 23) 0 0 u) na' va' ri' :=
        wi_M_congr hz hc (fun _ h => wq_cpyZ h) (fun _ h => wq_cpyZ h) (fun _ h => wq_cpyZ h) (fun _ h => wq_cpyZ h) (fun _ h => wq_cpyZ h) (fun _ h => wq_cpyZ h) (fun _ h => wq_cpyZ h) (fun _ h => wq_cpyZ h) (fun _ _ => rfl) (fun _ _ => rfl) (fun _ _ => rfl) M0
      obtain ⟨depth', direct', reach', l1, l2⟩ := wm_learn M' V' (N := N) (by omega) (A 45) (L 43) (L 44) (S 42 5)
      have cg : ∀ l k : Nat, l ≤ k → k < 10000 → xr_cg (Int32.ofNat 0) (Int32.ofNat 0) (Int32.ofNat l) k k := by
        intro l k hl hk
        have e0 : ¬ Int32.ofNat 0 < (0 : Int32) := by decide
        refine ⟨⟨e0, e0, fun hh => (wq_ltF (Nat.zero_le l) (by omega)).mp hh⟩, ?_, ?_⟩
        · rw [wq_clamp (by omega), wq_clamp (by omega)]
          omega
        · rw [wq_clamp (by omega), wq_clamp (by omega)]
          omega
      have cp : xf_md_copyFrom it2 (Int32.ofNat r) nm2 nb2 or2 (Int32.ofNat r) sz2 so2 st2 (Int32.ofNat u) va2 (A 23) (S 15 1) (L 17) (A 16) (A 19) (S 15 0) (A 18) (A 20) (A 22) (S 15 2) (A 21) = some ((), va_cpy it2 (A 23) 0 0 u, Int32.ofNat r, va_cpy nm2 (L 17) 0 0 r, va_cpy nb2 (A 16) 0 0 r, va_cpy or2 (A 19) 0 0 r, Int32.ofNat r, va_cpy sz2 (A 18) 0 0 r, va_cpy so2 (A 20) 0 0 (r * 8), va_cpy st2 (A 22) 0 0 (r * 8), Int32.ofNat u, va_cpy va2 (A 21) 0 0 (r * 8)) := by
        rw [xf_md_copyFrom_s, wq_mul]
        rw [if_pos (cg r 40 (by omega) (by omega)), if_pos (cg r 40 (by omega) (by omega)), if_pos (cg r 40 (by omega) (by omega)), if_pos (cg r 40 (by omega) (by omega)), if_pos (cg (r * 8) 320 (by omega) (by omega)), if_pos (cg (r * 8) 320 (by omega) (by omega)), if_pos (cg (r * 8) 320 (by omega) (by omega)), if_pos (cg u 1200 (by omega) (by omega))]
        simp (disch := omega) only [wq_ltT, wq_ltF, wq_inT, wq_clamp, wq_eqF, wq_eqm, wq_meq, wq_add, wq_mul, wq_subT, eq_self, Bool.false_eq_true, ↓reduceIte, Option.bind_some, Sum.elim_inl, Sum.elim_inr, ↓wq_f0b, ↓wq_f1b, ↓wq_f2b, ↓wq_r0b, ↓wq_r1b, ↓Option.bind_some]
      have m1 : ((-1 : Int32) = -1) = True := eq_true rfl
      have h1 : xf_xt_read (A 2) N (A 45) (L 43) (S 42 5) (L 44) (A 23) (S 15 1) (L 17) (A 16) (A 19) (S 15 0) (A 18) (A 20) (A 22) (S 15 2) (A 21) (A 51) (A 54) (A 52) (A 53) (S 50 6) (S 50 5) (A 32) (S 24 1) (L 26) (A 25) (A 28) (S 24 0) (A 27) (A 29) (A 31) (S 24 2) (A 30) (S 1 2) (Int32.ofNat E) = some (Int32.ofNat r, depth', direct', Int32.ofNat 0, reach', va_cpy it2 (A 23) 0 0 u, Int32.ofNat r, va_cpy nm2 (L 17) 0 0 r, va_cpy nb2 (A 16) 0 0 r, va_cpy or2 (A 19) 0 0 r, Int32.ofNat r, va_cpy sz2 (A 18) 0 0 r, va_cpy so2 (A 20) 0 0 (r * 8), va_cpy st2 (A 22) 0 0 (r * 8), Int32.ofNat u, va_cpy va2 (A 21) 0 0 (r * 8), begin', digits', end', first', Int32.ofNat i', Int32.ofNat T, it2, Int32.ofNat r, nm2, nb2, or2, Int32.ofNat r, sz2, so2, st2, Int32.ofNat u, va2, Int32.ofNat 0, Int32.ofNat 0) := by
        simp (disch := omega) only [↓xf_xt_read_s, wq_ltT, wq_ltF, wq_inT, wq_clamp, wq_eqF, wq_eqm, wq_meq, wq_add, wq_mul, wq_subT, eq_self, Bool.false_eq_true, ↓reduceIte, Option.bind_some, Sum.elim_inl, Sum.elim_inr, ↓wq_f0b, ↓wq_f1b, ↓wq_f2b, ↓wq_r0b, ↓wq_r1b, ↓Option.bind_some, ↓wq_b c1, ↓wq_b f1, m1, ↓wq_b cp, ↓wq_b l1, ↓xf_pg_clear_s]
      have V'' : wi_V r (fun p => a (oo p)) (fun p => z (oo p)) (fun p => m (oo p)) (fun p k => t (oo p * 8 + k)) (fun p k => c (oo p * 8 + k)) (upd li 0 (Int32.ofNat r) 0) nu' le' na' pa' so' va' ri' := by
        rw [wq_upd1]
        exact V'
      have k1' : (fun p => nu' (80 + p)) = (fun p => nu (80 + p)) := funext (fun p => (g1 _ (by omega)).2.1)
      have k2' : (fun p => le' (80 + p)) = (fun p => le (80 + p)) := funext (fun p => (g1 _ (by omega)).1)
      have k3' : (fun p => na' (640 + p)) = (fun p => na (640 + p)) := funext (fun p => (g2 _ (by omega)).1)
      have k4' : (fun p => pa' (80 + p)) = (fun p => pa (80 + p)) := funext (fun p => (g1 _ (by omega)).2.2)
      have k5' : (fun p => so' (640 + p)) = (fun p => so (640 + p)) := funext (fun p => (g2 _ (by omega)).2.1)
      have k6' : (fun p => va' (640 + p)) = (fun p => va (640 + p)) := funext (fun p => (g2 _ (by omega)).2.2)
      have k7' : (fun p => ri' (12800 + p)) = (fun p => ri (12800 + p)) := funext (fun p => g3 _ (by omega))
      have Kp' : wi_V nk ak zk mk tk ck (upd li 0 (Int32.ofNat r) 2) (fun p => nu' (80 + p)) (fun p => le' (80 + p)) (fun i => na' (640 + i)) (fun p => pa' (80 + p)) (fun k => so' (640 + k)) (fun k => va' (640 + k)) (fun i => ri' (12800 + i)) ∧
          wi_M nk Rk uk ok ak zk mk tk ck sk (S 33 0) (S 33 1) (S 33 2) (A 34) (L 35) (A 36) (A 37) (A 38) (A 39) (A 40) (A 41) (fun i => na' (640 + i)) (fun k => va' (640 + k)) (fun i => ri' (12800 + i)) := by
        rw [k1', k2', k3', k4', k5', k6', k7', wq_upd2 (by omega)]
        exact Kp
      exact ⟨_, _, h1, h2, rfl, ⟨⟨0, by omega, rfl, rfl, fun j hj => absurd hj (by omega)⟩, hKd, ⟨r, r, u, _, _, _, _, _, _, _, V'', M', l2, Or.inl rfl⟩, ⟨nk, Rk, uk, ok, ak, zk, mk, tk, ck, sk, Kp'⟩⟩⟩
  · have sa := wt_stands hX hTok j1
    rw [← ra] at c1
    have h1 : xf_xt_read (A 2) N (A 45) (L 43) (S 42 5) (L 44) (A 23) (S 15 1) (L 17) (A 16) (A 19) (S 15 0) (A 18) (A 20) (A 22) (S 15 2) (A 21) (A 51) (A 54) (A 52) (A 53) (S 50 6) (S 50 5) (A 32) (S 24 1) (L 26) (A 25) (A 28) (S 24 0) (A 27) (A 29) (A 31) (S 24 2) (A 30) (S 1 2) (Int32.ofNat E) = some (-1 - Int32.ofNat (b i'), A 45, L 43, S 42 5, L 44, A 23, S 15 1, L 17, A 16, A 19, S 15 0, A 18, A 20, A 22, S 15 2, A 21, begin', digits', end', first', Int32.ofNat i', Int32.ofNat T, it2, li', nm2, nb2, or2, ro', sz2, so2, st2, us', va2, S 1 2, Int32.ofNat E) := by
      simp (disch := omega) only [↓xf_xt_read_s, wq_ltT, wq_ltF, wq_inT, wq_clamp, wq_eqF, wq_eqm, wq_meq, wq_add, wq_mul, wq_subT, eq_self, Bool.false_eq_true, ↓reduceIte, Option.bind_some, Sum.elim_inl, Sum.elim_inr, ↓wq_f0b, ↓wq_f1b, ↓wq_f2b, ↓wq_r0b, ↓wq_r1b, ↓Option.bind_some, ↓wq_b c1, ↓wq_b sa]
    have h2 := rd.trans c2
    exact ⟨_, _, h1, h2, rfl, ⟨⟨E, t1, rfl, rfl, t4⟩, hKd, same, ⟨nk, Rk, uk, ok, ak, zk, mk, tk, ck, sk, Kp⟩⟩⟩
