/-! ALIKE LINES. -/
section
variable {n : Nat} {a z m : Nat → Nat} {t c : Nat → Nat → Nat} {rl : Int32} {numbers letters names parts sorts values items lines : Nat → Int32}
/-- whether two lines are alike hangs on the lines that they refer to alone -/
theorem wi_al_dep (hV : wi_V n a z m t c rl numbers letters names parts sorts values items) {g h : Nat → Nat} {p q : Nat} (hp : p < n) (hq : q < n) (e : ∀ r, r < n → (wi_ref a z t c values items p r ∨ wi_ref a z t c values items q r) → g r = h r) (H : wi_al n a z m t c names values items g p q) : wi_al n a z m t c names values items h p q := by
  obtain ⟨h1, h2, h3, h4⟩ := H
  have key : ∀ x k i, (x = p ∨ x = q) → x < n → k < z x → i < wq_rc (t x k) (c x k) → g (wq_tg a n (t x k) (values (8 * x + k)) (fun i => items (20 * (8 * x + k) + i)) i) = h (wq_tg a n (t x k) (values (8 * x + k)) (fun i => items (20 * (8 * x + k) + i)) i) := by
    intro x k i hx hxn hk hi
    have g1 := (wq_tg_lt hV hxn hk hi).1
    have r := (wq_ref_iff hV hxn g1).mpr ⟨k, i, hk, hi, rfl⟩
    apply e _ g1
    rcases hx with rfl | rfl
    · exact Or.inl r
    · exact Or.inr r
  refine ⟨h1, h2, h3, fun k hk => ?_⟩
  obtain ⟨f1, f2, f3, f4, f5⟩ := h4 k hk
  refine ⟨f1, f2, fun e2 => ?_, f4, fun e4 => ⟨(f5 e4).1, fun i hi => ?_⟩⟩
  · have k1 := key p k 0 (Or.inl rfl) hp hk (by unfold wq_rc; rw [if_pos e2]; omega)
    have e2' : t q k = 2 := by omega
    have k2 := key q k 0 (Or.inr rfl) hq (by omega) (by unfold wq_rc; rw [if_pos e2']; omega)
    unfold wq_tg at k1 k2
    rw [if_pos e2] at k1
    rw [if_pos e2'] at k2
    rw [← k1, ← k2]
    exact f3 e2
  · have e4' : t q k = 4 := by omega
    have k1 := key p k i (Or.inl rfl) hp hk (by unfold wq_rc; rw [if_neg (by omega), if_pos e4]; exact hi)
    have k2 := key q k i (Or.inr rfl) hq (by omega) (by unfold wq_rc; rw [if_neg (by omega), if_pos e4']; have := (f5 e4).1; omega)
    unfold wq_tg at k1 k2
    rw [if_neg (by omega)] at k1 k2
    rw [← k1, ← k2]
    exact (f5 e4).2 i hi
theorem wi_al_trans {h : Nat → Nat} {p q r : Nat} (H : wi_al n a z m t c names values items h p q) (H' : wi_al n a z m t c names values items h q r) : wi_al n a z m t c names values items h p r := by
  obtain ⟨h1, h2, h3, h4⟩ := H
  obtain ⟨g1, g2, g3, g4⟩ := H'
  refine ⟨by omega, fun i hi => (h2 i hi).trans (g2 i (by omega)), by omega, fun k hk => ?_⟩
  obtain ⟨a1, a2, a3, a4, a5⟩ := h4 k hk
  obtain ⟨b1, b2, b3, b4, b5⟩ := g4 k (by omega)
  refine ⟨by omega, fun e => (a2 e).trans (b2 (by omega)), fun e => (a3 e).trans (b3 (by omega)), fun e => ?_, fun e => ?_⟩
  · obtain ⟨c1, c2⟩ := a4 e
    obtain ⟨d1, d2⟩ := b4 (by omega)
    exact ⟨by omega, fun i hi => (c2 i hi).trans (d2 i (by omega))⟩
  · obtain ⟨c1, c2⟩ := a5 e
    obtain ⟨d1, d2⟩ := b5 (by omega)
    exact ⟨by omega, fun i hi => (c2 i hi).trans (d2 i (by omega))⟩
/-- lines that are referred to are less deep -/
theorem wi_D_less {r : Nat → Nat → Prop} {D : Nat → Int32} (hn : n ≤ 40) (hD : wi_D n r D) {p q d : Nat} (hp : p < n) (hd : d < n) (h : D p = Int32.ofNat d) (hq : q < n) (hr : r p q) : ∃ e, e < d ∧ D q = Int32.ofNat e := by
  rcases hD p hp with ⟨g1, _⟩ | ⟨d', g0, g1, g2, _⟩
  · rw [h] at g1
    exact ((wq_eqm (by omega)).mp g1).elim
  · rw [h] at g1
    have e := wq_inj (by omega) (by omega) g1
    subst e
    exact g2 q hq hr
theorem wi_D_val {r : Nat → Nat → Prop} {D : Nat → Int32} (hD : wi_D n r D) {p : Nat} (hp : p < n) : D p = -1 ∨ ∃ d, d < n ∧ D p = Int32.ofNat d := by
  rcases hD p hp with ⟨g1, _⟩ | ⟨d', g0, g1, _⟩
  · exact Or.inl g1
  · exact Or.inr ⟨d', g0, g1⟩
/-- what is led, below a depth -/
def wi_hb (n : Nat) (D : Nat → Int32) (al : (Nat → Nat) → Nat → Nat → Prop) (h : Nat → Nat) (d : Nat) : Prop :=
  ∀ p, p < n → (h p ≤ p) ∧ (¬ (∃ e, e < d ∧ D p = Int32.ofNat e) → h p = p) ∧ ((∃ e, e < d ∧ D p = Int32.ofNat e) → ((h p = p ∧ ∀ q, q < p → D q = D p → ¬ al h p q) ∨ (h p < p ∧ D (h p) = D p ∧ al h p (h p) ∧ ∀ q, q < h p → D q = D p → ¬ al h p q)))
/-- there is such a leading -/
theorem wi_h_ex (hV : wi_V n a z m t c rl numbers letters names parts sorts values items) {D : Nat → Int32} (hD : wi_D n (wi_ref a z t c values items) D) : ∃ h, wi_h n D (wi_al n a z m t c names values items) h := by
  have hn := hV.1.1
  have step : ∀ d, d ≤ n → ∃ h, wi_hb n D (wi_al n a z m t c names values items) h d := by
    intro d
    induction d with
    | zero =>
      intro _
      exact ⟨fun p => p, fun p hp => ⟨Nat.le_refl p, fun _ => rfl, fun ⟨e, he, _⟩ => absurd he (by omega)⟩⟩
    | succ d ih =>
      intro hd
      obtain ⟨h, hh⟩ := ih (by omega)
      -- the least alike one
      have least : ∀ p, ∃ q, q ≤ p ∧ (q < p → D q = D p ∧ wi_al n a z m t c names values items h p q) ∧ ∀ q', q' < q → D q' = D p → ¬ wi_al n a z m t c names values items h p q' := by
        intro p
        have : ∀ k, k ≤ p → (∃ q, q < k ∧ D q = D p ∧ wi_al n a z m t c names values items h p q ∧ ∀ q', q' < q → D q' = D p → ¬ wi_al n a z m t c names values items h p q') ∨ ∀ q, q < k → D q = D p → ¬ wi_al n a z m t c names values items h p q := by
          intro k
          induction k with
          | zero => intro _; exact Or.inr (fun q hq => absurd hq (by omega))
          | succ k ihk =>
            intro hk
            rcases ihk (by omega) with ⟨q, q1, q2⟩ | hno
            · exact Or.inl ⟨q, by omega, q2⟩
            · by_cases hk2 : D k = D p ∧ wi_al n a z m t c names values items h p k
              · exact Or.inl ⟨k, by omega, hk2.1, hk2.2, hno⟩
              · refine Or.inr (fun q hq hDq hal => ?_)
                by_cases e : q = k
                · subst e
                  exact hk2 ⟨hDq, hal⟩
                · exact hno q (by omega) hDq hal
        rcases this p (Nat.le_refl p) with ⟨q, q1, q2, q3, q4⟩ | hno
        · exact ⟨q, by omega, fun _ => ⟨q2, q3⟩, q4⟩
        · exact ⟨p, Nat.le_refl p, fun hh => absurd hh (by omega), hno⟩
      let f : Nat → Nat := fun p => Classical.choose (least p)
      have hf := fun p => Classical.choose_spec (least p)
      let h2 : Nat → Nat := fun p => @ite _ (D p = Int32.ofNat d) (Classical.propDecidable _) (f p) (h p)
      have same : ∀ p q, p < n → q < n → (∃ e, e < d + 1 ∧ D p = Int32.ofNat e) → D q = D p → (wi_al n a z m t c names values items h p q ↔ wi_al n a z m t c names values items h2 p q) := by
        intro p q hp hq he hDq
        obtain ⟨e, e1, e2⟩ := he
        have agree : ∀ r, r < n → (wi_ref a z t c values items p r ∨ wi_ref a z t c values items q r) → h r = h2 r := by
          intro r hr hpq
          have : ∃ e', e' < e ∧ D r = Int32.ofNat e' := by
            rcases hpq with g | g
            · exact wi_D_less hn hD hp (by omega) e2 hr g
            · exact wi_D_less hn hD hq (by omega) (hDq.trans e2) hr g
          obtain ⟨e', e3, e4⟩ := this
          have ne : ¬ D r = Int32.ofNat d := by
            rw [e4]
            intro hc
            have := wq_inj (by omega) (by omega) hc
            omega
          show h r = @ite _ (D r = Int32.ofNat d) (Classical.propDecidable _) (f r) (h r)
          rw [if_neg ne]
        exact ⟨wi_al_dep hV hp hq agree, wi_al_dep hV hp hq (fun r hr hpq => (agree r hr hpq).symm)⟩
      refine ⟨h2, fun p hp => ?_⟩
      by_cases hdp : D p = Int32.ofNat d
      · have e2 : h2 p = f p := by
          show @ite _ (D p = Int32.ofNat d) (Classical.propDecidable _) (f p) (h p) = f p
          rw [if_pos hdp]
        obtain ⟨g1, g2, g3⟩ := hf p
        rw [e2]
        refine ⟨g1, fun hne => absurd ⟨d, by omega, hdp⟩ hne, fun he => ?_⟩
        by_cases hlt : f p < p
        · obtain ⟨g4, g5⟩ := g2 hlt
          exact Or.inr ⟨hlt, g4, (same p (f p) hp (by omega) he g4).mp g5, fun q hq hDq hal => g3 q hq hDq ((same p q hp (by omega) he hDq).mpr hal)⟩
        · have e3 : f p = p := Nat.le_antisymm g1 (by omega)
          refine Or.inl ⟨e3, fun q hq hDq hal => g3 q (by rw [show Classical.choose (least p) = p from e3]; exact hq) hDq ((same p q hp (by omega) he hDq).mpr hal)⟩
      · have e2 : h2 p = h p := by
          show @ite _ (D p = Int32.ofNat d) (Classical.propDecidable _) (f p) (h p) = h p
          rw [if_neg hdp]
        obtain ⟨g1, g2, g3⟩ := hh p hp
        rw [e2]
        refine ⟨g1, fun hne => g2 (fun ⟨e, e1, e3⟩ => hne ⟨e, by omega, e3⟩), fun he => ?_⟩
        have he' : ∃ e, e < d ∧ D p = Int32.ofNat e := by
          obtain ⟨e, e1, e3⟩ := he
          refine ⟨e, ?_, e3⟩
          apply Classical.byContradiction
          intro hc
          have : e = d := by omega
          rw [this] at e3
          exact hdp e3
        rcases g3 he' with ⟨g4, g5⟩ | ⟨g4, g5, g6, g7⟩
        · exact Or.inl ⟨g4, fun q hq hDq hal => g5 q hq hDq ((same p q hp (by omega) he hDq).mpr hal)⟩
        · exact Or.inr ⟨g4, g5, (same p (h p) hp (by omega) he g5).mp g6, fun q hq hDq hal => g7 q hq hDq ((same p q hp (by omega) he hDq).mpr hal)⟩
  obtain ⟨h, hh⟩ := step n (Nat.le_refl n)
  refine ⟨h, fun p hp => ?_⟩
  obtain ⟨g1, g2, g3⟩ := hh p hp
  rcases wi_D_val hD hp with hm | ⟨d, d1, d2⟩
  · refine Or.inl ⟨g2 (fun ⟨e, e1, e2⟩ => ?_), Or.inl hm⟩
    rw [hm] at e2
    exact (wq_meq (by omega)).mp e2
  · have ne : ¬ D p = -1 := by
      rw [d2]
      exact fun hh => (wq_eqm (by omega)).mp hh
    rcases g3 ⟨d, d1, d2⟩ with ⟨g4, g5⟩ | ⟨g4, g5, g6, g7⟩
    · exact Or.inl ⟨g4, Or.inr g5⟩
    · exact Or.inr ⟨g4, ne, g5, g6, g7⟩
end
