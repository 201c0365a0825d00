/-! DIFFERS, the walk through both models. -/
theorem wq_le0 (to : Nat → Int32) {k : Nat} (hk : k < 2147483648) : xf_le_of to 0 (Int32.ofNat k) = some (Int32.ofNat k) := by
  simp (disch := omega) only [↓xf_le_of_23_s, ↓xf_le_of_22_s, ↓xf_le_of_s, wq_ltT, wq_ltF, wq_inT, wq_clamp, wq_eqF, wq_eqm, wq_meq, wq_add, wq_mul, wq_subT, eq_self, Bool.false_eq_true, ↓reduceIte, Option.bind_some, Sum.elim_inl, Sum.elim_inr, ↓wq_f0b, ↓wq_f1b, ↓wq_f2b, ↓wq_r0b, ↓wq_r1b, ↓Option.bind_some]
theorem wi_differs {A : wp_A} {L : wp_L} {S : wp_A} {n R u : Nat} {o a z m : Nat → Nat} {t c s : Nat → Nat → Nat} {n' R' u' : Nat} {o' a' z' m' : Nat → Nat} {t' c' s' : Nat → Nat → Nat} (h : wi_Model A L S n R u o a z m t c s) (h' : wi_Kept A L S n' R' u' o' a' z' m' t' c' s') {N what : Nat} (hN : 60 ≤ N) (hwh : what = 0 ∨ what = 1) (th : Int32) :
    ∀ k v p q i left M M', v + k = 1000 → 1 ≤ v → k < M' → (n - p) + (n' - q) < M → p ≤ n → q ≤ n' → i ≤ p + q → left < 2147483648 → (∀ x, x < p → a x < v) → (∀ x, p ≤ x → x < n → v ≤ a x) → (∀ x, x < q → a' x < v) → (∀ x, q ≤ x → x < n' → v ≤ a' x) →
    ∃ r, xf_xt_differs_32 (A 49) (A 41) (S 33 1) (L 35) (A 34) (A 37) (A 36) (A 38) (A 40) (S 33 2) (A 39) (A 23) (S 15 1) (L 17) (A 16) (A 19) (A 18) (A 20) (A 22) (S 15 2) (A 21) 0 N M (Int32.ofNat what) (Int32.ofNat left) (Int32.ofNat p) (Int32.ofNat q) (Int32.ofNat i) = some (.inl r) ∧ xf_rf_differs_38 (A 73) (A 68) (A 66) (A 69) (A 67) (A 70) (A 71) (A 72) N M' th (Int32.ofNat what) (Int32.ofNat left) (Int32.ofNat v) = some (r, th) := by
  obtain ⟨hn, hn2, hn3⟩ := wi_n h
  have hn' := h'.1.1.1
  have hn2' : S 33 1 = Int32.ofNat n' := h'.2.1.2.2.2.2.1
  have hn3' : A 66 2 = Int32.ofNat n' := h'.1.1.2
  have hr' : ∀ p, p < n' → o' p < 40 ∧ A 37 p = Int32.ofNat (o' p) ∧ A 34 (o' p) = Int32.ofNat (a' p) := by
    intro p hp
    obtain ⟨⟨g1, g2, _⟩, g3, _⟩ := h'.2
    obtain ⟨g4, g5, g6, _⟩ := g3 p hp
    exact ⟨by omega, g5, g6⟩
  have ha : ∀ x, x < n → 1 ≤ a x ∧ a x ≤ 999 := fun x hx => (wi_a h x hx).2
  have ha' : ∀ x, x < n' → 1 ≤ a' x ∧ a' x ≤ 999 := fun x hx => (h'.1.2.1 x hx).2
  have fx : ∀ v p, v < 1000 → p ≤ n → (∀ x, x < p → a x < v) → (∀ x, p ≤ x → x < n → v ≤ a x) → (p < n ∧ a p = v ∧ wq_fx a n (Int32.ofNat v) = some p) ∨ ((p < n → v < a p) ∧ wq_fx a n (Int32.ofNat v) = none) := by
    intro v p hv hp h1 h2
    by_cases hpn : p < n ∧ a p = v
    · have := wq_ix_at h.1 hpn.1
      rw [hpn.2] at this
      exact Or.inl ⟨hpn.1, hpn.2, this⟩
    · refine Or.inr ⟨fun hh => by have := h2 p (Nat.le_refl p) hh; omega, ?_⟩
      cases hf : wq_fx a n (Int32.ofNat v) with
      | none => rfl
      | some x =>
        obtain ⟨x1, x2⟩ := wq_fx_some hf
        have hax := ha x x1
        have := wq_inj (by omega) (by omega) x2
        by_cases e : x = p
        · subst e
          exact absurd ⟨x1, this⟩ hpn
        · by_cases hxp : x < p
          · have := h1 x hxp
            omega
          · have hpn2 : p < n := by omega
            have h3 := h2 p (Nat.le_refl p) hpn2
            have h4 := h.1.2.2.1 p x (by omega) x1
            omega
  have fx' : ∀ v p, v < 1000 → p ≤ n' → (∀ x, x < p → a' x < v) → (∀ x, p ≤ x → x < n' → v ≤ a' x) → (p < n' ∧ a' p = v ∧ wq_fx a' n' (Int32.ofNat v) = some p) ∨ ((p < n' → v < a' p) ∧ wq_fx a' n' (Int32.ofNat v) = none) := by
    intro v p hv hp h1 h2
    by_cases hpn : p < n' ∧ a' p = v
    · have := wq_ix_at h'.1 hpn.1
      rw [hpn.2] at this
      exact Or.inl ⟨hpn.1, hpn.2, this⟩
    · refine Or.inr ⟨fun hh => by have := h2 p (Nat.le_refl p) hh; omega, ?_⟩
      cases hf : wq_fx a' n' (Int32.ofNat v) with
      | none => rfl
      | some x =>
        obtain ⟨x1, x2⟩ := wq_fx_some hf
        have hax := ha' x x1
        have := wq_inj (by omega) (by omega) x2
        by_cases e : x = p
        · subst e
          exact absurd ⟨x1, this⟩ hpn
        · by_cases hxp : x < p
          · have := h1 x hxp
            omega
          · have hpn2 : p < n' := by omega
            have h3 := h2 p (Nat.le_refl p) hpn2
            have h4 := h'.1.2.2.1 p x (by omega) x1
            omega
  have fnd := fun x => wi_find h (N := N) (by omega) x
  have fnd' := fun x => wq_find (b := 80) (a := a') (lines := A 66) (numbers := A 67) 2 rfl (by omega) hn' hn3' (fun p hp => (h'.1.2.1 p hp).1) (N := N) (by omega) x
  intro k
  induction k with
  | zero =>
    intro v p q i left M M' hv h1v hM' hM hp hq hi hl hp1 hp2 hq1 hq2
    obtain ⟨M1, rfl⟩ : ∃ M1, M = M1 + 1 := ⟨M - 1, by omega⟩
    obtain ⟨M2, rfl⟩ : ∃ M2, M' = M2 + 1 := ⟨M' - 1, by omega⟩
    have ep : p = n := by
      apply Classical.byContradiction
      intro hc
      have := hp2 p (Nat.le_refl p) (by omega)
      have := ha p (by omega)
      omega
    have eq : q = n' := by
      apply Classical.byContradiction
      intro hc
      have := hq2 q (Nat.le_refl q) (by omega)
      have := ha' q (by omega)
      omega
    subst ep
    subst eq
    refine ⟨-1, ?_, ?_⟩
    · by_cases h80 : i < 80
      · simp (disch := omega) only [xf_xt_differs_32_s, xf_xt_differs_193_s, wq_ltT, wq_ltF, wq_inT, wq_clamp, wq_eqF, wq_eqm, wq_meq, wq_add, wq_mul, wq_subT, eq_self, Bool.false_eq_true, ↓reduceIte, Option.bind_some, Sum.elim_inl, Sum.elim_inr, ↓wq_f0b, ↓wq_f1b, ↓wq_f2b, ↓wq_r0b, ↓wq_r1b, ↓Option.bind_some, hn2, hn2']
      · simp (disch := omega) only [xf_xt_differs_32_s, xf_xt_differs_193_s, wq_ltT, wq_ltF, wq_inT, wq_clamp, wq_eqF, wq_eqm, wq_meq, wq_add, wq_mul, wq_subT, eq_self, Bool.false_eq_true, ↓reduceIte, Option.bind_some, Sum.elim_inl, Sum.elim_inr, ↓wq_f0b, ↓wq_f1b, ↓wq_f2b, ↓wq_r0b, ↓wq_r1b, ↓Option.bind_some, hn2, hn2']
    · simp (disch := omega) only [xf_rf_differs_38_s, wq_ltT, wq_ltF, wq_inT, wq_clamp, wq_eqF, wq_eqm, wq_meq, wq_add, wq_mul, wq_subT, eq_self, Bool.false_eq_true, ↓reduceIte, Option.bind_some, Sum.elim_inl, Sum.elim_inr, ↓wq_f0b, ↓wq_f1b, ↓wq_f2b, ↓wq_r0b, ↓wq_r1b, ↓Option.bind_some]
  | succ k ih =>
    intro v p q i left M M' hv h1v hM' hM hp hq hi hl hp1 hp2 hq1 hq2
    obtain ⟨M1, rfl⟩ : ∃ M1, M = M1 + 1 := ⟨M - 1, by omega⟩
    obtain ⟨M2, rfl⟩ : ∃ M2, M' = M2 + 1 := ⟨M' - 1, by omega⟩
    have f1 := fnd (Int32.ofNat v)
    have f2 := fnd' (Int32.ofNat v)
    rcases fx v p (by omega) hp hp1 hp2 with ⟨p1, p2, p3⟩ | ⟨p1, p3⟩
    · obtain ⟨r1, r2, r3⟩ := wi_row h p p1
      have e1 := wq_rowAt hn (fun p hp => (wi_row h p hp).2.1) p1
      rcases fx' v q (by omega) hq hq1 hq2 with ⟨q1, q2, q3⟩ | ⟨q1, q3⟩
      · -- both
        obtain ⟨r1', r2', r3'⟩ := hr' q q1
        have e1' := wq_rowAt hn' (fun p hp => (hr' p hp).2.1) q1
        rw [p3] at f1
        rw [q3] at f2
        have hM2 : wi_M n R u o a z m t c s (S 15 0) (S 15 1) (S 15 2) (A 16) (L 17) (A 18) (A 19) (A 20) (A 21) (A 22) (A 23) (A 69) (A 72) (A 73) := h.2.1
        have cs := wq_sameLine (to := A 49) (nn := 0) (N := N) h.2.1 h.1 h'.2 h'.1 (by omega) p1 q1 (lam := fun x => x) (fun r hr => wq_le0 _ (by have := ha r hr; omega)) (fun r hr => wq_le0 _ (by have := ha' r hr; omega))
        have rs := wq_rsame h.1 h'.1 hN p1 q1
        have goOn := ih (v + 1) (p + 1) (q + 1) (i + 1) left M1 M2 (by omega) (by omega) (by omega) (by omega) (by omega) (by omega) (by omega) hl (fun x hx => by
          by_cases e : x = p
          · rw [e, p2]
            omega
          · have := hp1 x (by omega)
            omega) (fun x h1 h2 => by
          have := h.1.2.2.1 p x (by omega) h2
          omega) (fun x hx => by
          by_cases e : x = q
          · rw [e, q2]
            omega
          · have := hq1 x (by omega)
            omega) (fun x h1 h2 => by
          have := h'.1.2.2.1 q x (by omega) h2
          omega)
        by_cases hs : wq_sl n n' z m z' m' t c t' (A 69) (A 72) (A 73) (fun i => A 69 (640 + i)) (fun k => A 72 (640 + k)) (fun i => A 73 (12800 + i)) (fun x => x) p q
        · have cs1 := cs.resolve_right (fun hh => hh.1 hs)
          have rs1 := rs.resolve_right (fun hh => hh.1 hs)
          have hw : xf_xt_howDiffers (A 49) (A 41) (L 35) (A 34) (A 36) (A 38) (A 40) (S 33 2) (A 39) (A 23) (L 17) (A 16) (A 18) (A 20) (A 22) (S 15 2) (A 21) 0 N (Int32.ofNat (o p)) (Int32.ofNat (o' q)) = some (Int32.ofNat 0) := by
            simp (disch := omega) only [↓xf_xt_howDiffers_33_s, ↓xf_xt_howDiffers_83_s, ↓xf_xt_howDiffers_s, wq_ltT, wq_ltF, wq_inT, wq_clamp, wq_eqF, wq_eqm, wq_meq, wq_add, wq_mul, wq_subT, eq_self, Bool.false_eq_true, ↓reduceIte, Option.bind_some, Sum.elim_inl, Sum.elim_inr, ↓wq_f0b, ↓wq_f1b, ↓wq_f2b, ↓wq_r0b, ↓wq_r1b, ↓Option.bind_some, r3, r3', p2, q2, ↓wq_b cs1.2]
          obtain ⟨r, g1, g2⟩ := goOn
          refine ⟨r, ?_, ?_⟩
          · rw [← g1, xf_xt_differs_32_s, hn2, hn2']
            simp (disch := omega) only [↓xf_xt_differs_63_s, ↓xf_xt_differs_142_s, ↓xf_xt_differs_153_s, ↓xf_xt_differs_168_s, ↓xf_xt_differs_184_s, wq_ltT, wq_ltF, wq_inT, wq_clamp, wq_eqF, wq_eqm, wq_meq, wq_add, wq_mul, wq_subT, eq_self, Bool.false_eq_true, ↓reduceIte, Option.bind_some, Sum.elim_inl, Sum.elim_inr, ↓wq_f0b, ↓wq_f1b, ↓wq_f2b, ↓wq_r0b, ↓wq_r1b, ↓Option.bind_some, ↓wq_b e1, ↓wq_b e1', ↓wq_b hw, Nat.sub_zero]
          · rw [← g2, xf_rf_differs_38_s]
            simp (disch := omega) only [xf_rf_differs_80_s, xf_rf_differs_116_s, xf_rf_differs_145_s, wq_ltT, wq_ltF, wq_inT, wq_clamp, wq_eqF, wq_eqm, wq_meq, wq_add, wq_mul, wq_subT, eq_self, Bool.false_eq_true, ↓reduceIte, Option.bind_some, Sum.elim_inl, Sum.elim_inr, ↓wq_f0b, ↓wq_f1b, ↓wq_f2b, ↓wq_r0b, ↓wq_r1b, ↓Option.bind_some, f1, f2, wq_or, rs1.2]
        · have cs1 := cs.resolve_left (fun hh => hs hh.1)
          have rs1 := rs.resolve_left (fun hh => hs hh.1)
          have hw : xf_xt_howDiffers (A 49) (A 41) (L 35) (A 34) (A 36) (A 38) (A 40) (S 33 2) (A 39) (A 23) (L 17) (A 16) (A 18) (A 20) (A 22) (S 15 2) (A 21) 0 N (Int32.ofNat (o p)) (Int32.ofNat (o' q)) = some (Int32.ofNat 3) := by
            simp (disch := omega) only [↓xf_xt_howDiffers_33_s, ↓xf_xt_howDiffers_83_s, ↓xf_xt_howDiffers_s, wq_ltT, wq_ltF, wq_inT, wq_clamp, wq_eqF, wq_eqm, wq_meq, wq_add, wq_mul, wq_subT, eq_self, Bool.false_eq_true, ↓reduceIte, Option.bind_some, Sum.elim_inl, Sum.elim_inr, ↓wq_f0b, ↓wq_f1b, ↓wq_f2b, ↓wq_r0b, ↓wq_r1b, ↓Option.bind_some, r3, r3', p2, q2, ↓wq_b cs1.2]
          by_cases hl0 : left = 0
          · subst hl0
            rcases hwh with rfl | rfl
            · refine ⟨Int32.ofNat v, ?_, ?_⟩
              · simp (disch := omega) only [xf_xt_differs_32_s, hn2, hn2', ↓xf_xt_differs_63_s, ↓xf_xt_differs_141_s, wq_ltT, wq_ltF, wq_inT, wq_clamp, wq_eqF, wq_eqm, wq_meq, wq_add, wq_mul, wq_subT, eq_self, Bool.false_eq_true, ↓reduceIte, Option.bind_some, Sum.elim_inl, Sum.elim_inr, ↓wq_f0b, ↓wq_f1b, ↓wq_f2b, ↓wq_r0b, ↓wq_r1b, ↓Option.bind_some, ↓wq_b e1, ↓wq_b e1', ↓wq_b hw, r3, p2]
              · simp (disch := omega) only [xf_rf_differs_38_s, xf_rf_differs_80_s, xf_rf_differs_116_s, xf_rf_differs_141_s, wq_ltT, wq_ltF, wq_inT, wq_clamp, wq_eqF, wq_eqm, wq_meq, wq_add, wq_mul, wq_subT, eq_self, Bool.false_eq_true, ↓reduceIte, Option.bind_some, Sum.elim_inl, Sum.elim_inr, ↓wq_f0b, ↓wq_f1b, ↓wq_f2b, ↓wq_r0b, ↓wq_r1b, ↓Option.bind_some, f1, f2, wq_or, rs1.2]
            · refine ⟨Int32.ofNat 3, ?_, ?_⟩
              · simp (disch := omega) only [xf_xt_differs_32_s, hn2, hn2', ↓xf_xt_differs_63_s, ↓xf_xt_differs_141_s, wq_ltT, wq_ltF, wq_inT, wq_clamp, wq_eqF, wq_eqm, wq_meq, wq_add, wq_mul, wq_subT, eq_self, Bool.false_eq_true, ↓reduceIte, Option.bind_some, Sum.elim_inl, Sum.elim_inr, ↓wq_f0b, ↓wq_f1b, ↓wq_f2b, ↓wq_r0b, ↓wq_r1b, ↓Option.bind_some, ↓wq_b e1, ↓wq_b e1', ↓wq_b hw, r3, p2]
              · simp (disch := omega) only [xf_rf_differs_38_s, xf_rf_differs_80_s, xf_rf_differs_116_s, xf_rf_differs_141_s, wq_ltT, wq_ltF, wq_inT, wq_clamp, wq_eqF, wq_eqm, wq_meq, wq_add, wq_mul, wq_subT, eq_self, Bool.false_eq_true, ↓reduceIte, Option.bind_some, Sum.elim_inl, Sum.elim_inr, ↓wq_f0b, ↓wq_f1b, ↓wq_f2b, ↓wq_r0b, ↓wq_r1b, ↓Option.bind_some, f1, f2, wq_or, rs1.2]
          · have goOn2 := ih (v + 1) (p + 1) (q + 1) (i + 1) (left - 1) M1 M2 (by omega) (by omega) (by omega) (by omega) (by omega) (by omega) (by omega) (by omega) (fun x hx => by
              by_cases e : x = p
              · rw [e, p2]
                omega
              · have := hp1 x (by omega)
                omega) (fun x h1 h2 => by
              have := h.1.2.2.1 p x (by omega) h2
              omega) (fun x hx => by
              by_cases e : x = q
              · rw [e, q2]
                omega
              · have := hq1 x (by omega)
                omega) (fun x h1 h2 => by
              have := h'.1.2.2.1 q x (by omega) h2
              omega)
            obtain ⟨r, g1, g2⟩ := goOn2
            refine ⟨r, ?_, ?_⟩
            · rw [← g1, xf_xt_differs_32_s, hn2, hn2']
              simp (disch := omega) only [↓xf_xt_differs_63_s, ↓xf_xt_differs_142_s, ↓xf_xt_differs_153_s, ↓xf_xt_differs_168_s, ↓xf_xt_differs_184_s, wq_ltT, wq_ltF, wq_inT, wq_clamp, wq_eqF, wq_eqm, wq_meq, wq_add, wq_mul, wq_subT, eq_self, Bool.false_eq_true, ↓reduceIte, Option.bind_some, Sum.elim_inl, Sum.elim_inr, ↓wq_f0b, ↓wq_f1b, ↓wq_f2b, ↓wq_r0b, ↓wq_r1b, ↓Option.bind_some, ↓wq_b e1, ↓wq_b e1', ↓wq_b hw]
            · rw [← g2, xf_rf_differs_38_s]
              simp (disch := omega) only [xf_rf_differs_80_s, xf_rf_differs_116_s, xf_rf_differs_145_s, wq_ltT, wq_ltF, wq_inT, wq_clamp, wq_eqF, wq_eqm, wq_meq, wq_add, wq_mul, wq_subT, eq_self, Bool.false_eq_true, ↓reduceIte, Option.bind_some, Sum.elim_inl, Sum.elim_inr, ↓wq_f0b, ↓wq_f1b, ↓wq_f2b, ↓wq_r0b, ↓wq_r1b, ↓Option.bind_some, f1, f2, wq_or, rs1.2, wq_m1]
      · -- only in the model: added
        rw [p3] at f1
        rw [q3] at f2
        have hold : ∃ y, xf_md_rowAt (Int32.ofNat n') (A 37) (Int32.ofNat q) = some y ∧ xf_xt_howDiffers (A 49) (A 41) (L 35) (A 34) (A 36) (A 38) (A 40) (S 33 2) (A 39) (A 23) (L 17) (A 16) (A 18) (A 20) (A 22) (S 15 2) (A 21) 0 N (Int32.ofNat (o p)) y = some (Int32.ofNat 2) := by
          by_cases hqn : q < n'
          · obtain ⟨r1', r2', r3'⟩ := hr' q hqn
            have hlt := q1 hqn
            have hax := ha' q hqn
            refine ⟨Int32.ofNat (o' q), wq_rowAt hn' (fun p hp => (hr' p hp).2.1) hqn, ?_⟩
            simp (disch := omega) only [↓xf_xt_howDiffers_33_s, ↓xf_xt_howDiffers_83_s, ↓xf_xt_howDiffers_s, wq_ltT, wq_ltF, wq_inT, wq_clamp, wq_eqF, wq_eqm, wq_meq, wq_add, wq_mul, wq_subT, eq_self, Bool.false_eq_true, ↓reduceIte, Option.bind_some, Sum.elim_inl, Sum.elim_inr, ↓wq_f0b, ↓wq_f1b, ↓wq_f2b, ↓wq_r0b, ↓wq_r1b, ↓Option.bind_some, r3, r3', p2]
          · refine ⟨-1, wq_rowAt2 hn' (by omega) (by omega), ?_⟩
            simp (disch := omega) only [↓xf_xt_howDiffers_33_s, ↓xf_xt_howDiffers_83_s, ↓xf_xt_howDiffers_s, wq_ltT, wq_ltF, wq_inT, wq_clamp, wq_eqF, wq_eqm, wq_meq, wq_add, wq_mul, wq_subT, eq_self, Bool.false_eq_true, ↓reduceIte, Option.bind_some, Sum.elim_inl, Sum.elim_inr, ↓wq_f0b, ↓wq_f1b, ↓wq_f2b, ↓wq_r0b, ↓wq_r1b, ↓Option.bind_some]
        obtain ⟨y, y1, y2⟩ := hold
        by_cases hl0 : left = 0
        · subst hl0
          rcases hwh with rfl | rfl
          · refine ⟨Int32.ofNat v, ?_, ?_⟩
            · simp (disch := omega) only [xf_xt_differs_32_s, hn2, hn2', xf_xt_differs_63_s, xf_xt_differs_141_s, wq_ltT, wq_ltF, wq_inT, wq_clamp, wq_eqF, wq_eqm, wq_meq, wq_add, wq_mul, wq_subT, eq_self, Bool.false_eq_true, ↓reduceIte, Option.bind_some, Sum.elim_inl, Sum.elim_inr, ↓wq_f0b, ↓wq_f1b, ↓wq_f2b, ↓wq_r0b, ↓wq_r1b, ↓Option.bind_some, e1, y1, y2, r3, p2]
            · simp (disch := omega) only [xf_rf_differs_38_s, xf_rf_differs_80_s, xf_rf_differs_116_s, xf_rf_differs_141_s, wq_ltT, wq_ltF, wq_inT, wq_clamp, wq_eqF, wq_eqm, wq_meq, wq_add, wq_mul, wq_subT, eq_self, Bool.false_eq_true, ↓reduceIte, Option.bind_some, Sum.elim_inl, Sum.elim_inr, ↓wq_f0b, ↓wq_f1b, ↓wq_f2b, ↓wq_r0b, ↓wq_r1b, ↓Option.bind_some, f1, f2, wq_or]
          · refine ⟨Int32.ofNat 2, ?_, ?_⟩
            · simp (disch := omega) only [xf_xt_differs_32_s, hn2, hn2', xf_xt_differs_63_s, xf_xt_differs_141_s, wq_ltT, wq_ltF, wq_inT, wq_clamp, wq_eqF, wq_eqm, wq_meq, wq_add, wq_mul, wq_subT, eq_self, Bool.false_eq_true, ↓reduceIte, Option.bind_some, Sum.elim_inl, Sum.elim_inr, ↓wq_f0b, ↓wq_f1b, ↓wq_f2b, ↓wq_r0b, ↓wq_r1b, ↓Option.bind_some, e1, y1, y2, r3, p2]
            · simp (disch := omega) only [xf_rf_differs_38_s, xf_rf_differs_80_s, xf_rf_differs_116_s, xf_rf_differs_141_s, wq_ltT, wq_ltF, wq_inT, wq_clamp, wq_eqF, wq_eqm, wq_meq, wq_add, wq_mul, wq_subT, eq_self, Bool.false_eq_true, ↓reduceIte, Option.bind_some, Sum.elim_inl, Sum.elim_inr, ↓wq_f0b, ↓wq_f1b, ↓wq_f2b, ↓wq_r0b, ↓wq_r1b, ↓Option.bind_some, f1, f2, wq_or]
        · have goOn2 := ih (v + 1) (p + 1) q (i + 1) (left - 1) M1 M2 (by omega) (by omega) (by omega) (by omega) (by omega) (by omega) (by omega) (by omega) (fun x hx => by
            by_cases e : x = p
            · rw [e, p2]
              omega
            · have := hp1 x (by omega)
              omega) (fun x h1 h2 => by
            have := h.1.2.2.1 p x (by omega) h2
            omega) (fun x hx => by
            have := hq1 x hx
            omega) (fun x h1 h2 => by
            by_cases e : x = q
            · subst e
              have := q1 h2
              omega
            · have := h'.1.2.2.1 q x (by omega) h2
              have := q1 (by omega)
              omega)
          obtain ⟨r, g1, g2⟩ := goOn2
          refine ⟨r, ?_, ?_⟩
          · rw [← g1, xf_xt_differs_32_s, hn2, hn2']
            simp (disch := omega) only [xf_xt_differs_63_s, xf_xt_differs_142_s, xf_xt_differs_153_s, xf_xt_differs_168_s, xf_xt_differs_184_s, wq_ltT, wq_ltF, wq_inT, wq_clamp, wq_eqF, wq_eqm, wq_meq, wq_add, wq_mul, wq_subT, eq_self, Bool.false_eq_true, ↓reduceIte, Option.bind_some, Sum.elim_inl, Sum.elim_inr, ↓wq_f0b, ↓wq_f1b, ↓wq_f2b, ↓wq_r0b, ↓wq_r1b, ↓Option.bind_some, e1, y1, y2, Nat.add_zero]
          · rw [← g2, xf_rf_differs_38_s]
            simp (disch := omega) only [xf_rf_differs_80_s, xf_rf_differs_116_s, xf_rf_differs_145_s, wq_ltT, wq_ltF, wq_inT, wq_clamp, wq_eqF, wq_eqm, wq_meq, wq_add, wq_mul, wq_subT, eq_self, Bool.false_eq_true, ↓reduceIte, Option.bind_some, Sum.elim_inl, Sum.elim_inr, ↓wq_f0b, ↓wq_f1b, ↓wq_f2b, ↓wq_r0b, ↓wq_r1b, ↓Option.bind_some, f1, f2, wq_or, wq_m1]
    · rcases fx' v q (by omega) hq hq1 hq2 with ⟨q1, q2, q3⟩ | ⟨q1, q3⟩
      · -- only kept: gone
        obtain ⟨r1', r2', r3'⟩ := hr' q q1
        have e1' := wq_rowAt hn' (fun p hp => (hr' p hp).2.1) q1
        rw [p3] at f1
        rw [q3] at f2
        have hold : ∃ y, xf_md_rowAt (Int32.ofNat n) (A 19) (Int32.ofNat p) = some y ∧ xf_xt_howDiffers (A 49) (A 41) (L 35) (A 34) (A 36) (A 38) (A 40) (S 33 2) (A 39) (A 23) (L 17) (A 16) (A 18) (A 20) (A 22) (S 15 2) (A 21) 0 N y (Int32.ofNat (o' q)) = some (Int32.ofNat 1) := by
          by_cases hpn : p < n
          · obtain ⟨r1, r2, r3⟩ := wi_row h p hpn
            have hlt := p1 hpn
            have hax := ha p hpn
            refine ⟨Int32.ofNat (o p), wq_rowAt hn (fun p hp => (wi_row h p hp).2.1) hpn, ?_⟩
            simp (disch := omega) only [↓xf_xt_howDiffers_33_s, ↓xf_xt_howDiffers_83_s, ↓xf_xt_howDiffers_s, wq_ltT, wq_ltF, wq_inT, wq_clamp, wq_eqF, wq_eqm, wq_meq, wq_add, wq_mul, wq_subT, eq_self, Bool.false_eq_true, ↓reduceIte, Option.bind_some, Sum.elim_inl, Sum.elim_inr, ↓wq_f0b, ↓wq_f1b, ↓wq_f2b, ↓wq_r0b, ↓wq_r1b, ↓Option.bind_some, r3, r3', q2]
          · refine ⟨-1, wq_rowAt2 hn (by omega) (by omega), ?_⟩
            simp (disch := omega) only [↓xf_xt_howDiffers_33_s, ↓xf_xt_howDiffers_83_s, ↓xf_xt_howDiffers_s, wq_ltT, wq_ltF, wq_inT, wq_clamp, wq_eqF, wq_eqm, wq_meq, wq_add, wq_mul, wq_subT, eq_self, Bool.false_eq_true, ↓reduceIte, Option.bind_some, Sum.elim_inl, Sum.elim_inr, ↓wq_f0b, ↓wq_f1b, ↓wq_f2b, ↓wq_r0b, ↓wq_r1b, ↓Option.bind_some]
        obtain ⟨y, y1, y2⟩ := hold
        have enter : ∀ (k32 : Int32 → Int32 → Int32 → Int32 → Int32 → Option (Int32 ⊕ String)), True := fun _ => trivial
        have hin : xf_xt_differs_32 (A 49) (A 41) (S 33 1) (L 35) (A 34) (A 37) (A 36) (A 38) (A 40) (S 33 2) (A 39) (A 23) (S 15 1) (L 17) (A 16) (A 19) (A 18) (A 20) (A 22) (S 15 2) (A 21) 0 N (M1 + 1) (Int32.ofNat what) (Int32.ofNat left) (Int32.ofNat p) (Int32.ofNat q) (Int32.ofNat i) = xf_xt_differs_63 (A 49) (A 41) (Int32.ofNat n') (L 35) (A 34) (A 37) (A 36) (A 38) (A 40) (S 33 2) (A 39) (A 23) (Int32.ofNat n) (L 17) (A 16) (A 19) (A 18) (A 20) (A 22) (S 15 2) (A 21) 0 (xf_xt_differs_32 (A 49) (A 41) (Int32.ofNat n') (L 35) (A 34) (A 37) (A 36) (A 38) (A 40) (S 33 2) (A 39) (A 23) (Int32.ofNat n) (L 17) (A 16) (A 19) (A 18) (A 20) (A 22) (S 15 2) (A 21) 0 N M1) N (Int32.ofNat what) (Int32.ofNat left) (Int32.ofNat p) (Int32.ofNat q) (Int32.ofNat i) := by
          rw [xf_xt_differs_32_s, hn2, hn2']
          by_cases hpn : p < n
          · simp (disch := omega) only [wq_ltT, wq_ltF, wq_inT, wq_clamp, wq_eqF, wq_eqm, wq_meq, wq_add, wq_mul, wq_subT, eq_self, Bool.false_eq_true, ↓reduceIte, Option.bind_some, Sum.elim_inl, Sum.elim_inr, ↓wq_f0b, ↓wq_f1b, ↓wq_f2b, ↓wq_r0b, ↓wq_r1b, ↓Option.bind_some]
          · simp (disch := omega) only [wq_ltT, wq_ltF, wq_inT, wq_clamp, wq_eqF, wq_eqm, wq_meq, wq_add, wq_mul, wq_subT, eq_self, Bool.false_eq_true, ↓reduceIte, Option.bind_some, Sum.elim_inl, Sum.elim_inr, ↓wq_f0b, ↓wq_f1b, ↓wq_f2b, ↓wq_r0b, ↓wq_r1b, ↓Option.bind_some]
        rw [hin]
        by_cases hl0 : left = 0
        · subst hl0
          rcases hwh with rfl | rfl
          · refine ⟨Int32.ofNat v, ?_, ?_⟩
            · simp (disch := omega) only [xf_xt_differs_63_s, xf_xt_differs_141_s, wq_ltT, wq_ltF, wq_inT, wq_clamp, wq_eqF, wq_eqm, wq_meq, wq_add, wq_mul, wq_subT, eq_self, Bool.false_eq_true, ↓reduceIte, Option.bind_some, Sum.elim_inl, Sum.elim_inr, ↓wq_f0b, ↓wq_f1b, ↓wq_f2b, ↓wq_r0b, ↓wq_r1b, ↓Option.bind_some, e1', y1, y2, r3', q2]
            · simp (disch := omega) only [xf_rf_differs_38_s, xf_rf_differs_80_s, xf_rf_differs_116_s, xf_rf_differs_141_s, wq_ltT, wq_ltF, wq_inT, wq_clamp, wq_eqF, wq_eqm, wq_meq, wq_add, wq_mul, wq_subT, eq_self, Bool.false_eq_true, ↓reduceIte, Option.bind_some, Sum.elim_inl, Sum.elim_inr, ↓wq_f0b, ↓wq_f1b, ↓wq_f2b, ↓wq_r0b, ↓wq_r1b, ↓Option.bind_some, f1, f2, wq_or]
          · refine ⟨Int32.ofNat 1, ?_, ?_⟩
            · simp (disch := omega) only [xf_xt_differs_63_s, xf_xt_differs_141_s, wq_ltT, wq_ltF, wq_inT, wq_clamp, wq_eqF, wq_eqm, wq_meq, wq_add, wq_mul, wq_subT, eq_self, Bool.false_eq_true, ↓reduceIte, Option.bind_some, Sum.elim_inl, Sum.elim_inr, ↓wq_f0b, ↓wq_f1b, ↓wq_f2b, ↓wq_r0b, ↓wq_r1b, ↓Option.bind_some, e1', y1, y2, r3', q2]
            · simp (disch := omega) only [xf_rf_differs_38_s, xf_rf_differs_80_s, xf_rf_differs_116_s, xf_rf_differs_141_s, wq_ltT, wq_ltF, wq_inT, wq_clamp, wq_eqF, wq_eqm, wq_meq, wq_add, wq_mul, wq_subT, eq_self, Bool.false_eq_true, ↓reduceIte, Option.bind_some, Sum.elim_inl, Sum.elim_inr, ↓wq_f0b, ↓wq_f1b, ↓wq_f2b, ↓wq_r0b, ↓wq_r1b, ↓Option.bind_some, f1, f2, wq_or]
        · have goOn2 := ih (v + 1) p (q + 1) (i + 1) (left - 1) M1 M2 (by omega) (by omega) (by omega) (by omega) (by omega) (by omega) (by omega) (by omega) (fun x hx => by
            have := hp1 x hx
            omega) (fun x h1 h2 => by
            by_cases e : x = p
            · subst e
              have := p1 h2
              omega
            · have := h.1.2.2.1 p x (by omega) h2
              have := p1 (by omega)
              omega) (fun x hx => by
            by_cases e : x = q
            · rw [e, q2]
              omega
            · have := hq1 x (by omega)
              omega) (fun x h1 h2 => by
            have := h'.1.2.2.1 q x (by omega) h2
            omega)
          obtain ⟨r, g1, g2⟩ := goOn2
          refine ⟨r, ?_, ?_⟩
          · rw [← g1, hn2, hn2']
            simp (disch := omega) only [xf_xt_differs_63_s, xf_xt_differs_142_s, xf_xt_differs_153_s, xf_xt_differs_168_s, xf_xt_differs_184_s, wq_ltT, wq_ltF, wq_inT, wq_clamp, wq_eqF, wq_eqm, wq_meq, wq_add, wq_mul, wq_subT, eq_self, Bool.false_eq_true, ↓reduceIte, Option.bind_some, Sum.elim_inl, Sum.elim_inr, ↓wq_f0b, ↓wq_f1b, ↓wq_f2b, ↓wq_r0b, ↓wq_r1b, ↓Option.bind_some, e1', y1, y2, Nat.add_zero]
          · rw [← g2, xf_rf_differs_38_s]
            simp (disch := omega) only [xf_rf_differs_80_s, xf_rf_differs_116_s, xf_rf_differs_145_s, wq_ltT, wq_ltF, wq_inT, wq_clamp, wq_eqF, wq_eqm, wq_meq, wq_add, wq_mul, wq_subT, eq_self, Bool.false_eq_true, ↓reduceIte, Option.bind_some, Sum.elim_inl, Sum.elim_inr, ↓wq_f0b, ↓wq_f1b, ↓wq_f2b, ↓wq_r0b, ↓wq_r1b, ↓Option.bind_some, f1, f2, wq_or, wq_m1]
      · -- in none
        rw [p3] at f1
        rw [q3] at f2
        obtain ⟨r, g1, g2⟩ := ih (v + 1) p q i left (M1 + 1) M2 (by omega) (by omega) (by omega) (by omega) hp hq hi hl (fun x hx => by
          have := hp1 x hx
          omega) (fun x h1 h2 => by
          by_cases e : x = p
          · subst e
            have := p1 h2
            omega
          · have := h.1.2.2.1 p x (by omega) h2
            have := p1 (by omega)
            omega) (fun x hx => by
          have := hq1 x hx
          omega) (fun x h1 h2 => by
          by_cases e : x = q
          · subst e
            have := q1 h2
            omega
          · have := h'.1.2.2.1 q x (by omega) h2
            have := q1 (by omega)
            omega)
        refine ⟨r, g1, ?_⟩
        rw [← g2, xf_rf_differs_38_s]
        simp (disch := omega) only [xf_rf_differs_80_s, xf_rf_differs_116_s, xf_rf_differs_145_s, wq_ltT, wq_ltF, wq_inT, wq_clamp, wq_eqF, wq_eqm, wq_meq, wq_add, wq_mul, wq_subT, eq_self, Bool.false_eq_true, ↓reduceIte, Option.bind_some, Sum.elim_inl, Sum.elim_inr, ↓wq_f0b, ↓wq_f1b, ↓wq_f2b, ↓wq_r0b, ↓wq_r1b, ↓Option.bind_some, f1, f2, wq_or]
theorem wc_18 {sc : Nat × (Nat → Int32)} {N : Nat} (hN : 1100 ≤ N) : wp_Ok sc wi_I (xf_law_18 sc N) := by
  apply wp_red_18
  intro A L S x y hI
  obtain ⟨_, _, ⟨n, R, u, o, a, z, m, t, c, s, hm⟩, ⟨n', R', u', o', a', z', m', t', c', s', hk'⟩⟩ := id hI
  have hn := (wi_n hm).1
  have hn' := hk'.1.1.1
  rcases wq_sgn x with hx | ⟨k, hk, rfl⟩
  · have h1 : xf_la_differs (A 49) (A 41) (S 33 1) (L 35) (A 34) (A 37) (A 36) (A 38) (A 40) (S 33 2) (A 39) (A 23) (S 15 1) (L 17) (A 16) (A 19) (A 18) (A 20) (A 22) (S 15 2) (A 21) 0 1 N (L 77) x y = some (Int32.ofNat 1, L 77) := by
      simp (disch := omega) only [↓xf_la_differs_s, xf_xt_differs_s, xf_xt_differs_17_s, xf_xt_differs_18_s, ↓xf_xt_refuseUnless_s, wq_ltT, wq_ltF, wq_inT, wq_clamp, wq_eqF, wq_eqm, wq_meq, wq_add, wq_mul, wq_subT, eq_self, Bool.false_eq_true, ↓reduceIte, Option.bind_some, Sum.elim_inl, Sum.elim_inr, ↓wq_f0b, ↓wq_f1b, ↓wq_f2b, ↓wq_r0b, ↓wq_r1b, ↓Option.bind_some, hx]
    have h2 : xf_rf_differs (A 73) (A 68) (A 66) (A 69) (A 67) (A 70) (A 71) (A 72) N (S 57 0) x y = some (Int32.ofNat 0, Int32.ofNat 1) := by
      simp (disch := omega) only [xf_rf_differs_s, xf_rf_differs_19_s, xf_rf_differs_24_s, wq_f1, wq_ltT, wq_ltF, wq_inT, wq_clamp, wq_eqF, wq_eqm, wq_meq, wq_add, wq_mul, wq_subT, eq_self, Bool.false_eq_true, ↓reduceIte, Option.bind_some, Sum.elim_inl, Sum.elim_inr, ↓wq_f0b, ↓wq_f1b, ↓wq_f2b, ↓wq_r0b, ↓wq_r1b, ↓Option.bind_some, hx]
    exact ⟨_, _, h1, h2, ⟨rfl, fun h => absurd h wq_ne1⟩, wi_out hI⟩
  · rcases wq_sgn y with hy | ⟨l, hl, rfl⟩
    · have h1 : xf_la_differs (A 49) (A 41) (S 33 1) (L 35) (A 34) (A 37) (A 36) (A 38) (A 40) (S 33 2) (A 39) (A 23) (S 15 1) (L 17) (A 16) (A 19) (A 18) (A 20) (A 22) (S 15 2) (A 21) 0 1 N (L 77) (Int32.ofNat k) y = some (Int32.ofNat 1, L 77) := by
        simp (disch := omega) only [↓xf_la_differs_s, xf_xt_differs_s, xf_xt_differs_17_s, xf_xt_differs_18_s, ↓xf_xt_refuseUnless_s, wq_ltT, wq_ltF, wq_inT, wq_clamp, wq_eqF, wq_eqm, wq_meq, wq_add, wq_mul, wq_subT, eq_self, Bool.false_eq_true, ↓reduceIte, Option.bind_some, Sum.elim_inl, Sum.elim_inr, ↓wq_f0b, ↓wq_f1b, ↓wq_f2b, ↓wq_r0b, ↓wq_r1b, ↓Option.bind_some, wq_neg hy]
      have h2 : xf_rf_differs (A 73) (A 68) (A 66) (A 69) (A 67) (A 70) (A 71) (A 72) N (S 57 0) (Int32.ofNat k) y = some (Int32.ofNat 0, Int32.ofNat 1) := by
        simp (disch := omega) only [xf_rf_differs_s, xf_rf_differs_19_s, xf_rf_differs_24_s, wq_f1, wq_ltT, wq_ltF, wq_inT, wq_clamp, wq_eqF, wq_eqm, wq_meq, wq_add, wq_mul, wq_subT, eq_self, Bool.false_eq_true, ↓reduceIte, Option.bind_some, Sum.elim_inl, Sum.elim_inr, ↓wq_f0b, ↓wq_f1b, ↓wq_f2b, ↓wq_r0b, ↓wq_r1b, ↓Option.bind_some, hy]
      exact ⟨_, _, h1, h2, ⟨rfl, fun h => absurd h wq_ne1⟩, wi_out hI⟩
    · by_cases hl2 : l = 0 ∨ l = 1
      · obtain ⟨r, g1, g2⟩ := wi_differs hm hk' (N := N) (by omega) hl2 (Int32.ofNat 0) 999 1 0 0 0 k N N (by omega) (by omega) (by omega) (by omega) (by omega) (by omega) (by omega) hk (fun x hx => absurd hx (by omega)) (fun x _ hx => (wi_a hm x hx).2.1) (fun x hx => absurd hx (by omega)) (fun x _ hx => (hk'.1.2.1 x hx).2.1)
        have h1 : xf_la_differs (A 49) (A 41) (S 33 1) (L 35) (A 34) (A 37) (A 36) (A 38) (A 40) (S 33 2) (A 39) (A 23) (S 15 1) (L 17) (A 16) (A 19) (A 18) (A 20) (A 22) (S 15 2) (A 21) 0 1 N (L 77) (Int32.ofNat k) (Int32.ofNat l) = some (Int32.ofNat 0, vp_updL (L 77) 0 r.toInt64) := by
          rcases hl2 with rfl | rfl
          · simp (disch := omega) only [↓xf_la_differs_s, xf_xt_differs_s, xf_xt_differs_13_s, xf_xt_differs_18_s, ↓xf_xt_refuseUnless_s, wq_ltT, wq_ltF, wq_inT, wq_clamp, wq_eqF, wq_eqm, wq_meq, wq_add, wq_mul, wq_subT, eq_self, Bool.false_eq_true, ↓reduceIte, Option.bind_some, Sum.elim_inl, Sum.elim_inr, ↓wq_f0b, ↓wq_f1b, ↓wq_f2b, ↓wq_r0b, ↓wq_r1b, ↓Option.bind_some, g1]
          · simp (disch := omega) only [↓xf_la_differs_s, xf_xt_differs_s, xf_xt_differs_13_s, xf_xt_differs_18_s, ↓xf_xt_refuseUnless_s, wq_ltT, wq_ltF, wq_inT, wq_clamp, wq_eqF, wq_eqm, wq_meq, wq_add, wq_mul, wq_subT, eq_self, Bool.false_eq_true, ↓reduceIte, Option.bind_some, Sum.elim_inl, Sum.elim_inr, ↓wq_f0b, ↓wq_f1b, ↓wq_f2b, ↓wq_r0b, ↓wq_r1b, ↓Option.bind_some, g1]
        have h2 : xf_rf_differs (A 73) (A 68) (A 66) (A 69) (A 67) (A 70) (A 71) (A 72) N (S 57 0) (Int32.ofNat k) (Int32.ofNat l) = some (r, Int32.ofNat 0) := by
          simp (disch := omega) only [xf_rf_differs_s, xf_rf_differs_24_s, wq_f0, wq_ltT, wq_ltF, wq_inT, wq_clamp, wq_eqF, wq_eqm, wq_meq, wq_add, wq_mul, wq_subT, eq_self, Bool.false_eq_true, ↓reduceIte, Option.bind_some, Sum.elim_inl, Sum.elim_inr, ↓wq_f0b, ↓wq_f1b, ↓wq_f2b, ↓wq_r0b, ↓wq_r1b, ↓Option.bind_some, g2]
        exact ⟨_, _, h1, h2, ⟨rfl, fun _ => wp_cmp _⟩, wi_out hI⟩
      · have h1 : xf_la_differs (A 49) (A 41) (S 33 1) (L 35) (A 34) (A 37) (A 36) (A 38) (A 40) (S 33 2) (A 39) (A 23) (S 15 1) (L 17) (A 16) (A 19) (A 18) (A 20) (A 22) (S 15 2) (A 21) 0 1 N (L 77) (Int32.ofNat k) (Int32.ofNat l) = some (Int32.ofNat 1, L 77) := by
          simp (disch := omega) only [↓xf_la_differs_s, xf_xt_differs_s, xf_xt_differs_17_s, xf_xt_differs_18_s, ↓xf_xt_refuseUnless_s, wq_ltT, wq_ltF, wq_inT, wq_clamp, wq_eqF, wq_eqm, wq_meq, wq_add, wq_mul, wq_subT, eq_self, Bool.false_eq_true, ↓reduceIte, Option.bind_some, Sum.elim_inl, Sum.elim_inr, ↓wq_f0b, ↓wq_f1b, ↓wq_f2b, ↓wq_r0b, ↓wq_r1b, ↓Option.bind_some]
        have h2 : xf_rf_differs (A 73) (A 68) (A 66) (A 69) (A 67) (A 70) (A 71) (A 72) N (S 57 0) (Int32.ofNat k) (Int32.ofNat l) = some (Int32.ofNat 0, Int32.ofNat 1) := by
          simp (disch := omega) only [xf_rf_differs_s, xf_rf_differs_19_s, xf_rf_differs_24_s, wq_f1, wq_ltT, wq_ltF, wq_inT, wq_clamp, wq_eqF, wq_eqm, wq_meq, wq_add, wq_mul, wq_subT, eq_self, Bool.false_eq_true, ↓reduceIte, Option.bind_some, Sum.elim_inl, Sum.elim_inr, ↓wq_f0b, ↓wq_f1b, ↓wq_f2b, ↓wq_r0b, ↓wq_r1b, ↓Option.bind_some]
        exact ⟨_, _, h1, h2, ⟨rfl, fun h => absurd h wq_ne1⟩, wi_out hI⟩
