/-! JOIN, on the reference's side. -/
/-- how many stay below p -/
def wq_rk (h : Nat → Nat) : Nat → Nat
  | 0 => 0
  | p + 1 => wq_rk h p + (if h p = p then 1 else 0)
theorem wq_rk_le (h : Nat → Nat) : ∀ p, wq_rk h p ≤ p := by
  intro p
  induction p with
  | zero => exact Nat.le_refl 0
  | succ p ih =>
    rw [wq_rk]
    split <;> omega
theorem wq_rk_mono (h : Nat → Nat) {p q : Nat} (hpq : p ≤ q) : wq_rk h p ≤ wq_rk h q := by
  induction q with
  | zero =>
    have e : p = 0 := by omega
    rw [e]
    exact Nat.le_refl _
  | succ q ih =>
    by_cases e : p = q + 1
    · rw [e]
      exact Nat.le_refl _
    · have := ih (by omega)
      rw [wq_rk]
      omega
theorem wq_rk_lt (h : Nat → Nat) {p q : Nat} (hp : h p = p) (hpq : p < q) : wq_rk h p < wq_rk h q := by
  have h1 := wq_rk_mono h (show p + 1 ≤ q by omega)
  rw [wq_rk, if_pos hp] at h1
  omega
theorem wq_rk_ex (h : Nat → Nat) : ∀ n j, j < wq_rk h n → ∃ p, p < n ∧ h p = p ∧ wq_rk h p = j := by
  intro n
  induction n with
  | zero => intro j hj; exact absurd hj (by rw [wq_rk]; omega)
  | succ n ih =>
    intro j hj
    rw [wq_rk] at hj
    by_cases hn : h n = n
    · rw [if_pos hn] at hj
      by_cases e : j = wq_rk h n
      · exact ⟨n, by omega, hn, e.symm⟩
      · obtain ⟨p, p1, p2⟩ := ih j (by omega)
        exact ⟨p, by omega, p2⟩
    · rw [if_neg hn] at hj
      obtain ⟨p, p1, p2⟩ := ih j (by omega)
      exact ⟨p, by omega, p2⟩
/-- the lines that stay, in their order -/
theorem wq_pi (h : Nat → Nat) (n : Nat) : ∃ f : Nat → Nat, (∀ j, j < wq_rk h n → f j < n ∧ h (f j) = f j ∧ wq_rk h (f j) = j) ∧ (∀ j k, j < k → k < wq_rk h n → f j < f k) ∧ ∀ p, p < n → h p = p → wq_rk h p < wq_rk h n ∧ f (wq_rk h p) = p := by
  have h1 : ∀ j, ∃ p, j < wq_rk h n → p < n ∧ h p = p ∧ wq_rk h p = j := by
    intro j
    by_cases hj : j < wq_rk h n
    · obtain ⟨p, hp⟩ := wq_rk_ex h n j hj
      exact ⟨p, fun _ => hp⟩
    · exact ⟨0, fun hh => absurd hh hj⟩
  obtain ⟨f, hf⟩ := Classical.skolem.mp h1
  have uniq : ∀ p q, h p = p → h q = q → wq_rk h p = wq_rk h q → p = q := by
    intro p q hp hq e
    apply Classical.byContradiction
    intro hne
    by_cases hlt : p < q
    · have := wq_rk_lt h hp hlt
      omega
    · have := wq_rk_lt h hq (show q < p by omega)
      omega
  refine ⟨f, hf, fun j k hjk hk => ?_, fun p hp hst => ?_⟩
  · obtain ⟨a1, a2, a3⟩ := hf j (by omega)
    obtain ⟨b1, b2, b3⟩ := hf k hk
    apply Classical.byContradiction
    intro hc
    by_cases e : f j = f k
    · rw [e] at a3
      omega
    · have := wq_rk_lt h b2 (show f k < f j by omega)
      omega
  · have h2 := wq_rk_lt h hst hp
    obtain ⟨a1, a2, a3⟩ := hf (wq_rk h p) h2
    exact ⟨h2, uniq _ _ a2 hst a3⟩
/-- who is led leads to himself -/
theorem wi_h_idem {n : Nat} {a z m : Nat → Nat} {t c : Nat → Nat → Nat} {names values items : Nat → Int32} {D : Nat → Int32} {h : Nat → Nat} (H : wi_h n D (wi_al n a z m t c names values items) h) {p : Nat} (hp : p < n) : h (h p) = h p := by
  rcases H p hp with ⟨h1, _⟩ | ⟨h1, h2, h3, h4, h5⟩
  · rw [h1, h1]
  · exact (wq_first H hp h1 h3 h4 h5 h2).2
/-- where a reference goes -/
def wj_nv (a : Nat → Nat) (n : Nat) (h : Nat → Nat) (v : Int32) : Int32 := Int32.ofNat (a (h (wq_ix a n v)))
def wj_v (a : Nat → Nat) (n : Nat) (h : Nat → Nat) (t : Nat) (v : Int32) : Int32 := if t = 2 then wj_nv a n h v else v
def wj_i (a : Nat → Nat) (n : Nat) (h : Nat → Nat) (t : Nat) (v : Int32) : Int32 := if t = 4 then wj_nv a n h v else v
section
variable {n : Nat} {a z m : Nat → Nat} {t c : Nat → Nat → Nat} {rl : Int32} {numbers letters names parts sorts values items lines likes depths : Nat → Int32} {ways : Nat → Int64} {th : Int32} {h : Nat → Nat}
theorem wj_referred (hV : wi_V n a z m t c rl numbers letters names parts sorts values items) (hl : lines 0 = Int32.ofNat n) {N : Nat} (hN : 41 ≤ N) {p k i q : Nat} (hp : p < n) (hk : k < z p) {values' items' : Nat → Int32} (hq : wq_fx a n (if t p k = 2 then values' (8 * p + k) else items' (20 * (8 * p + k) + i)) = some q) (hi : i < 20) : xf_rf_referred items' lines numbers sorts values' N (Int32.ofNat (8 * p + k)) (Int32.ofNat i) = some (Int32.ofNat q) := by
  obtain ⟨⟨hn, _⟩, v2, _, _, v5, v6⟩ := hV
  obtain ⟨_, _, z1⟩ := v5 p hp
  obtain ⟨w1, w2, w3, _⟩ := v6 p k hp hk
  have e := fun x => wq_find (b := 0) (a := a) (lines := lines) (numbers := numbers) 0 rfl (by omega) hn hl (fun p hp => by rw [Nat.zero_add]; exact (v2 p hp).1) hN x
  by_cases h2 : t p k = 2
  · rw [if_pos h2] at hq
    have e' := e (values' (8 * p + k))
    rw [hq] at e'
    simp (disch := omega) only [↓xf_rf_referred_32_s, ↓xf_rf_referred_s, wq_ltT, wq_ltF, wq_inT, wq_clamp, wq_eqF, wq_eqm, wq_meq, wq_add, wq_mul, wq_subT, eq_self, Bool.false_eq_true, ↓reduceIte, Option.bind_some, Sum.elim_inl, Sum.elim_inr, ↓wq_f0b, ↓wq_f1b, ↓wq_f2b, ↓wq_r0b, ↓wq_r1b, ↓Option.bind_some, w1, h2, ↓wq_b e', wq_or, Nat.zero_add]
  · rw [if_neg h2] at hq
    have e' := e (items' (20 * (8 * p + k) + i))
    rw [hq] at e'
    simp (disch := omega) only [↓xf_rf_referred_32_s, ↓xf_rf_referred_s, wq_ltT, wq_ltF, wq_inT, wq_clamp, wq_eqF, wq_eqm, wq_meq, wq_add, wq_mul, wq_subT, eq_self, Bool.false_eq_true, ↓reduceIte, Option.bind_some, Sum.elim_inl, Sum.elim_inr, ↓wq_f0b, ↓wq_f1b, ↓wq_f2b, ↓wq_r0b, ↓wq_r1b, ↓Option.bind_some, w1, h2, ↓wq_b e', wq_or, Nat.zero_add]
/-- how far the references are led -/
def wj_S (n : Nat) (a z : Nat → Nat) (t c : Nat → Nat → Nat) (values items : Nat → Int32) (h : Nat → Nat) (P K I : Nat) (values' items' : Nat → Int32) : Prop :=
  (∀ p k, p < n → k < z p → values' (8 * p + k) = if p < P ∨ (p = P ∧ k < K) then wj_v a n h (t p k) (values (8 * p + k)) else values (8 * p + k)) ∧
  (∀ p k i, p < n → k < z p → i < c p k → items' (20 * (8 * p + k) + i) = if p < P ∨ (p = P ∧ (k < K ∨ (k = K ∧ i < I))) then wj_i a n h (t p k) (items (20 * (8 * p + k) + i)) else items (20 * (8 * p + k) + i)) ∧
  (∀ j, 640 ≤ j → values' j = values j) ∧ (∀ j, 12800 ≤ j → items' j = items j)
theorem wj_75 (hV : wi_V n a z m t c rl numbers letters names parts sorts values items) (hl : lines 0 = Int32.ofNat n) (hlk : ∀ x, x < n → likes x = Int32.ofNat (h x) ∧ h x < n) {N : Nat} (hN : 41 ≤ N) {p k : Nat} (hp : p < n) (hk : k < z p) (h4 : t p k = 4) (values' : Nat → Int32) (hv : values' (8 * p + k) = values (8 * p + k))
    (k11 : (Nat → Int32) → (Nat → Int32) → (Nat → Int32) → (Nat → Int32) → (Nat → Int32) → (Nat → Int32) → (Nat → Int32) → (Nat → Int32) → (Nat → Int32) → Int32 → (Nat → Int32) → (Nat → Int64) → Int32 → Option (Int32 × (Nat → Int32) × (Nat → Int32) × (Nat → Int32) × (Nat → Int32) × (Nat → Int32) × (Nat → Int32) × (Nat → Int32) × (Nat → Int32) × (Nat → Int32) × Int32 × (Nat → Int32) × (Nat → Int64)))
    (k26 : (Nat → Int32) → (Nat → Int32) → (Nat → Int32) → (Nat → Int32) → (Nat → Int32) → (Nat → Int32) → (Nat → Int32) → (Nat → Int32) → (Nat → Int32) → Int32 → (Nat → Int32) → (Nat → Int64) → Int32 → Int32 → Option (Int32 × (Nat → Int32) × (Nat → Int32) × (Nat → Int32) × (Nat → Int32) × (Nat → Int32) × (Nat → Int32) × (Nat → Int32) × (Nat → Int32) × (Nat → Int32) × Int32 × (Nat → Int32) × (Nat → Int64))) :
    ∀ l i M (items' : Nat → Int32), i + l = c p k → l < M → (∀ j, i ≤ j → j < c p k → items' (20 * (8 * p + k) + j) = items (20 * (8 * p + k) + j)) →
    ∃ items2, (∀ j, i ≤ j → j < c p k → items2 (20 * (8 * p + k) + j) = wj_nv a n h (items (20 * (8 * p + k) + j))) ∧ (∀ x, (∀ j, i ≤ j → j < c p k → x ≠ 20 * (8 * p + k) + j) → items2 x = items' x) ∧
      xf_rf_join_75 k11 k26 N M depths items' letters likes lines names numbers parts sorts th values' ways (Int32.ofNat p) (Int32.ofNat (8 * p + k)) (Int32.ofNat i) = k26 depths items2 letters likes lines names numbers parts sorts th values' ways (Int32.ofNat p) (Int32.ofNat (8 * p + k + 1)) := by
  have hn := hV.1.1
  obtain ⟨_, _, z1⟩ := hV.2.2.2.2.1 p hp
  obtain ⟨w1, w2, w3, w4, w5, w6, w7, w8, _⟩ := hV.2.2.2.2.2 p k hp hk
  have hc := (w8 h4).1
  rw [hc] at hv
  intro l
  induction l with
  | zero =>
    intro i M items' hi hM hit
    obtain ⟨M', rfl⟩ : ∃ M', M = M' + 1 := ⟨M - 1, by omega⟩
    refine ⟨items', fun j h1 h2 => absurd h2 (by omega), fun _ _ => rfl, ?_⟩
    simp (disch := omega) only [↓xf_rf_join_75_s, ↓xf_rf_join_128_s, wq_ltT, wq_ltF, wq_inT, wq_clamp, wq_eqF, wq_eqm, wq_meq, wq_add, wq_mul, wq_subT, eq_self, Bool.false_eq_true, ↓reduceIte, Option.bind_some, Sum.elim_inl, Sum.elim_inr, ↓wq_f0b, ↓wq_f1b, ↓wq_f2b, ↓wq_r0b, ↓wq_r1b, ↓Option.bind_some, hv]
  | succ l ih =>
    intro i M items' hi hM hit
    obtain ⟨M', rfl⟩ : ∃ M', M = M' + 1 := ⟨M - 1, by omega⟩
    have hr : i < wq_rc (t p k) (c p k) := by
      unfold wq_rc
      rw [if_neg (by omega), if_pos h4]
      omega
    obtain ⟨g1, g2, g3⟩ := wq_tg_lt hV hp hk hr
    have tix : wq_tg a n (t p k) (values (8 * p + k)) (fun i => items (20 * (8 * p + k) + i)) i = wq_ix a n (items (20 * (8 * p + k) + i)) := by
      unfold wq_tg
      rw [if_neg (by omega)]
    rw [tix] at g1 g3
    rw [if_neg (by omega : ¬ t p k = 2)] at g3
    have er := wj_referred hV hl hN (i := i) (values' := values') (items' := items') hp hk (q := wq_ix a n (items (20 * (8 * p + k) + i))) (by rw [if_neg (by omega : ¬ t p k = 2), hit i (Nat.le_refl i) (by omega)]; exact g3) (by omega)
    obtain ⟨l1, l2⟩ := hlk _ g1
    have nb := (hV.2.1 _ l2).1
    obtain ⟨items2, i1, i2, i3⟩ := ih (i + 1) M' (upd items' (20 * (8 * p + k) + i) (wj_nv a n h (items (20 * (8 * p + k) + i)))) (by omega) (by omega) (fun j h1 h2 => by
      rw [wq_upd2 (by omega)]
      exact hit j (by omega) h2)
    refine ⟨items2, fun j h1 h2 => ?_, fun x hx => ?_, ?_⟩
    · by_cases e : j = i
      · rw [e, i2 _ (fun j' h3 h4 => by omega), wq_upd1]
      · exact i1 j (by omega) h2
    · rw [i2 x (fun j h1 h2 => hx j (by omega) h2), wq_upd2 (hx i (Nat.le_refl i) (by omega))]
    · rw [← i3, xf_rf_join_75_s]
      simp (disch := omega) only [wq_ltT, wq_ltF, wq_inT, wq_clamp, wq_eqF, wq_eqm, wq_meq, wq_add, wq_mul, wq_subT, eq_self, Bool.false_eq_true, ↓reduceIte, Option.bind_some, Sum.elim_inl, Sum.elim_inr, ↓wq_f0b, ↓wq_f1b, ↓wq_f2b, ↓wq_r0b, ↓wq_r1b, ↓Option.bind_some, hv, w1, h4, ↓wq_b er, l1, nb]
      rfl
theorem wj_26 (hV : wi_V n a z m t c rl numbers letters names parts sorts values items) (hl : lines 0 = Int32.ofNat n) (hlk : ∀ x, x < n → likes x = Int32.ofNat (h x) ∧ h x < n) {N : Nat} (hN : 41 ≤ N) {p : Nat} (hp : p < n)
    (k11 : (Nat → Int32) → (Nat → Int32) → (Nat → Int32) → (Nat → Int32) → (Nat → Int32) → (Nat → Int32) → (Nat → Int32) → (Nat → Int32) → (Nat → Int32) → Int32 → (Nat → Int32) → (Nat → Int64) → Int32 → Option (Int32 × (Nat → Int32) × (Nat → Int32) × (Nat → Int32) × (Nat → Int32) × (Nat → Int32) × (Nat → Int32) × (Nat → Int32) × (Nat → Int32) × (Nat → Int32) × Int32 × (Nat → Int32) × (Nat → Int64))) :
    ∀ l k M (values' items' : Nat → Int32), k + l = z p → l < M → wj_S n a z t c values items h p k 0 values' items' →
    ∃ values2 items2, wj_S n a z t c values items h (p + 1) 0 0 values2 items2 ∧
      xf_rf_join_26 k11 N M depths items' letters likes lines names numbers parts sorts th values' ways (Int32.ofNat p) (Int32.ofNat (8 * p + k)) = k11 depths items2 letters likes lines names numbers parts sorts th values2 ways (Int32.ofNat (p + 1)) := by
  have hn := hV.1.1
  obtain ⟨z0, _, z1⟩ := hV.2.2.2.2.1 p hp
  intro l
  induction l with
  | zero =>
    intro k M values' items' hk hM hS
    obtain ⟨M', rfl⟩ : ∃ M', M = M' + 1 := ⟨M - 1, by omega⟩
    obtain ⟨s1, s2, s3, s4⟩ := hS
    refine ⟨values', items', ⟨fun p' k' hp' hk' => ?_, fun p' k' i hp' hk' hi => ?_, s3, s4⟩, ?_⟩
    · rw [s1 p' k' hp' hk']
      by_cases e : p' < p ∨ (p' = p ∧ k' < k)
      · rw [if_pos e, if_pos (by omega)]
      · rw [if_neg e, if_neg (fun hh => e (by
          by_cases e2 : p' = p
          · subst e2
            exact Or.inr ⟨rfl, by omega⟩
          · exact Or.inl (by omega)))]
    · rw [s2 p' k' i hp' hk' hi]
      by_cases e : p' < p ∨ (p' = p ∧ (k' < k ∨ (k' = k ∧ i < 0)))
      · rw [if_pos e, if_pos (by omega)]
      · rw [if_neg e, if_neg (fun hh => e (by
          by_cases e2 : p' = p
          · subst e2
            exact Or.inr ⟨rfl, Or.inl (by omega)⟩
          · exact Or.inl (by omega)))]
    · simp (disch := omega) only [↓xf_rf_join_26_s, wq_ltT, wq_ltF, wq_inT, wq_clamp, wq_eqF, wq_eqm, wq_meq, wq_add, wq_mul, wq_subT, eq_self, Bool.false_eq_true, ↓reduceIte, Option.bind_some, Sum.elim_inl, Sum.elim_inr, ↓wq_f0b, ↓wq_f1b, ↓wq_f2b, ↓wq_r0b, ↓wq_r1b, ↓Option.bind_some, z0]
  | succ l ih =>
    intro k M values' items' hk hM hS
    obtain ⟨M', rfl⟩ : ∃ M', M = M' + 1 := ⟨M - 1, by omega⟩
    have hkz : k < z p := by omega
    obtain ⟨s1, s2, s3, s4⟩ := id hS
    obtain ⟨w1, w2, w3, w4, w5, w6, w7, w8, _⟩ := hV.2.2.2.2.2 p k hp hkz
    have v0 : values' (8 * p + k) = values (8 * p + k) := by
      rw [s1 p k hp hkz, if_neg (by omega)]
    by_cases h2 : t p k = 2
    · have hr : 0 < wq_rc (t p k) (c p k) := by
        unfold wq_rc
        rw [if_pos h2]
        omega
      obtain ⟨g1, g2, g3⟩ := wq_tg_lt hV hp hkz hr
      have tix : wq_tg a n (t p k) (values (8 * p + k)) (fun i => items (20 * (8 * p + k) + i)) 0 = wq_ix a n (values (8 * p + k)) := by
        unfold wq_tg
        rw [if_pos h2]
      rw [tix] at g1 g3
      rw [if_pos h2] at g3
      have er := wj_referred hV hl hN (i := 0) (values' := values') (items' := items') hp hkz (q := wq_ix a n (values (8 * p + k))) (by rw [if_pos h2, v0]; exact g3) (by omega)
      obtain ⟨l1, l2⟩ := hlk _ g1
      obtain ⟨nb, nb1, nb2⟩ := hV.2.1 _ l2
      have hS2 : wj_S n a z t c values items h p (k + 1) 0 (upd values' (8 * p + k) (wj_nv a n h (values (8 * p + k)))) items' := by
        refine ⟨fun p' k' hp' hk' => ?_, fun p' k' i hp' hk' hi => ?_, fun j hj => ?_, s4⟩
        · have zz := (hV.2.2.2.2.1 p' hp').2.2
          by_cases e : p' = p ∧ k' = k
          · obtain ⟨rfl, rfl⟩ := e
            rw [wq_upd1, if_pos (by omega)]
            unfold wj_v
            rw [if_pos h2]
          · rw [wq_upd2 (by omega), s1 p' k' hp' hk']
            by_cases e2 : p' < p ∨ (p' = p ∧ k' < k)
            · rw [if_pos e2, if_pos (by omega)]
            · rw [if_neg e2, if_neg (by omega)]
        · rw [s2 p' k' i hp' hk' hi]
          by_cases e : p' = p ∧ k' = k
          · obtain ⟨rfl, rfl⟩ := e
            have hc0 := (w6 h2).1
            omega
          · by_cases e2 : p' < p ∨ (p' = p ∧ (k' < k ∨ (k' = k ∧ i < 0)))
            · rw [if_pos e2, if_pos (by omega)]
            · rw [if_neg e2, if_neg (by omega)]
        · rw [wq_upd2 (by omega)]
          exact s3 j hj
      obtain ⟨values2, items2, i1, i2⟩ := ih (k + 1) M' _ _ (by omega) (by omega) hS2
      refine ⟨values2, items2, i1, ?_⟩
      rw [← i2, xf_rf_join_26_s]
      have e75 : ∀ k26, xf_rf_join_75 k11 k26 N N depths items' letters likes lines names numbers parts sorts th (upd values' (8 * p + k) (wj_nv a n h (values (8 * p + k)))) ways (Int32.ofNat p) (Int32.ofNat (8 * p + k)) (Int32.ofNat 0) = k26 depths items' letters likes lines names numbers parts sorts th (upd values' (8 * p + k) (wj_nv a n h (values (8 * p + k)))) ways (Int32.ofNat p) (Int32.ofNat (8 * p + k + 1)) := by
        intro k26
        obtain ⟨N', rfl⟩ : ∃ N', N = N' + 1 := ⟨N - 1, by omega⟩
        have vv : upd values' (8 * p + k) (wj_nv a n h (values (8 * p + k))) (8 * p + k) = Int32.ofNat (a (h (wq_ix a n (values (8 * p + k))))) := wq_upd1
        simp (disch := omega) only [↓xf_rf_join_75_s, ↓xf_rf_join_128_s, wq_ltT, wq_ltF, wq_inT, wq_clamp, wq_eqF, wq_eqm, wq_meq, wq_add, wq_mul, wq_subT, eq_self, Bool.false_eq_true, ↓reduceIte, Option.bind_some, Sum.elim_inl, Sum.elim_inr, ↓wq_f0b, ↓wq_f1b, ↓wq_f2b, ↓wq_r0b, ↓wq_r1b, ↓Option.bind_some, vv, w1, h2]
      have hnv : Int32.ofNat (a (h (wq_ix a n (values (8 * p + k))))) = wj_nv a n h (values (8 * p + k)) := rfl
      simp (disch := omega) only [↓xf_rf_join_73_s, wq_ltT, wq_ltF, wq_inT, wq_clamp, wq_eqF, wq_eqm, wq_meq, wq_add, wq_mul, wq_subT, eq_self, Bool.false_eq_true, ↓reduceIte, Option.bind_some, Sum.elim_inl, Sum.elim_inr, ↓wq_f0b, ↓wq_f1b, ↓wq_f2b, ↓wq_r0b, ↓wq_r1b, ↓Option.bind_some, z0, w1, h2, ↓wq_b er, l1, nb, hnv, e75]
      rw [Nat.add_assoc]
    · have vsame : ∀ b : Prop, ∀ _ : Decidable b, (if b then wj_v a n h (t p k) (values (8 * p + k)) else values (8 * p + k)) = values (8 * p + k) := by
        intro b _
        unfold wj_v
        rw [if_neg h2, ite_self]
      by_cases h4 : t p k = 4
      · have hc := (w8 h4).1
        obtain ⟨items1, i1, i2, i3⟩ := wj_75 (depths := depths) (letters := letters) (names := names) (parts := parts) (ways := ways) (th := th) hV hl hlk hN hp hkz h4 values' v0 k11 (xf_rf_join_26 k11 N M') (c p k) 0 N items' (by omega) (by omega) (fun j _ hj => by
          rw [s2 p k j hp hkz hj, if_neg (by omega)])
        have hS2 : wj_S n a z t c values items h p (k + 1) 0 values' items1 := by
          refine ⟨fun p' k' hp' hk' => ?_, fun p' k' i hp' hk' hi => ?_, s3, fun j hj => ?_⟩
          · rw [s1 p' k' hp' hk']
            by_cases e : p' = p ∧ k' = k
            · obtain ⟨rfl, rfl⟩ := e
              rw [vsame, vsame]
            · by_cases e2 : p' < p ∨ (p' = p ∧ k' < k)
              · rw [if_pos e2, if_pos (by omega)]
              · rw [if_neg e2, if_neg (by omega)]
          · have zz := (hV.2.2.2.2.1 p' hp').2.2
            have cc := (hV.2.2.2.2.2 p' k' hp' hk').2.2.1
            by_cases e : p' = p ∧ k' = k
            · obtain ⟨rfl, rfl⟩ := e
              rw [i1 i (by omega) hi, if_pos (by omega)]
              unfold wj_i
              rw [if_pos h4]
            · rw [i2 _ (fun j _ hj => by omega), s2 p' k' i hp' hk' hi]
              by_cases e2 : p' < p ∨ (p' = p ∧ (k' < k ∨ (k' = k ∧ i < 0)))
              · rw [if_pos e2, if_pos (by omega)]
              · rw [if_neg e2, if_neg (by omega)]
          · rw [i2 j (fun j' _ hj' => by omega)]
            exact s4 j hj
        obtain ⟨values2, items2, j1, j2⟩ := ih (k + 1) M' _ _ (by omega) (by omega) hS2
        refine ⟨values2, items2, j1, ?_⟩
        rw [← j2, ← Nat.add_assoc, ← i3, xf_rf_join_26_s]
        simp (disch := omega) only [↓xf_rf_join_73_s, wq_ltT, wq_ltF, wq_inT, wq_clamp, wq_eqF, wq_eqm, wq_meq, wq_add, wq_mul, wq_subT, eq_self, Bool.false_eq_true, ↓reduceIte, Option.bind_some, Sum.elim_inl, Sum.elim_inr, ↓wq_f0b, ↓wq_f1b, ↓wq_f2b, ↓wq_r0b, ↓wq_r1b, ↓Option.bind_some, z0, w1, h4]
      · have hS2 : wj_S n a z t c values items h p (k + 1) 0 values' items' := by
          refine ⟨fun p' k' hp' hk' => ?_, fun p' k' i hp' hk' hi => ?_, s3, s4⟩
          · rw [s1 p' k' hp' hk']
            by_cases e : p' = p ∧ k' = k
            · obtain ⟨rfl, rfl⟩ := e
              rw [vsame, vsame]
            · by_cases e2 : p' < p ∨ (p' = p ∧ k' < k)
              · rw [if_pos e2, if_pos (by omega)]
              · rw [if_neg e2, if_neg (by omega)]
          · rw [s2 p' k' i hp' hk' hi]
            by_cases e : p' = p ∧ k' = k
            · obtain ⟨rfl, rfl⟩ := e
              unfold wj_i
              rw [if_neg h4, ite_self, ite_self]
            · by_cases e2 : p' < p ∨ (p' = p ∧ (k' < k ∨ (k' = k ∧ i < 0)))
              · rw [if_pos e2, if_pos (by omega)]
              · rw [if_neg e2, if_neg (by omega)]
        obtain ⟨values2, items2, j1, j2⟩ := ih (k + 1) M' _ _ (by omega) (by omega) hS2
        refine ⟨values2, items2, j1, ?_⟩
        have e75 : ∀ k26, xf_rf_join_75 k11 k26 N N depths items' letters likes lines names numbers parts sorts th values' ways (Int32.ofNat p) (Int32.ofNat (8 * p + k)) (Int32.ofNat 0) = k26 depths items' letters likes lines names numbers parts sorts th values' ways (Int32.ofNat p) (Int32.ofNat (8 * p + k + 1)) := by
          intro k26
          obtain ⟨N', rfl⟩ : ∃ N', N = N' + 1 := ⟨N - 1, by omega⟩
          simp (disch := omega) only [↓xf_rf_join_75_s, ↓xf_rf_join_128_s, wq_ltT, wq_ltF, wq_inT, wq_clamp, wq_eqF, wq_eqm, wq_meq, wq_add, wq_mul, wq_subT, eq_self, Bool.false_eq_true, ↓reduceIte, Option.bind_some, Sum.elim_inl, Sum.elim_inr, ↓wq_f0b, ↓wq_f1b, ↓wq_f2b, ↓wq_r0b, ↓wq_r1b, ↓Option.bind_some, w1, ite_self]
        rw [← j2, xf_rf_join_26_s]
        simp (disch := omega) only [↓xf_rf_join_73_s, wq_ltT, wq_ltF, wq_inT, wq_clamp, wq_eqF, wq_eqm, wq_meq, wq_add, wq_mul, wq_subT, eq_self, Bool.false_eq_true, ↓reduceIte, Option.bind_some, Sum.elim_inl, Sum.elim_inr, ↓wq_f0b, ↓wq_f1b, ↓wq_f2b, ↓wq_r0b, ↓wq_r1b, ↓Option.bind_some, z0, w1, e75]
        rw [Nat.add_assoc]
end
