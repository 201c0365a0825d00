/-! FINDLIKES. -/
theorem wi_h_congrD {n : Nat} {D D' : Nat → Int32} {al : (Nat → Nat) → Nat → Nat → Prop} {h : Nat → Nat} (he : ∀ p, p < n → D p = D' p) (H : wi_h n D al h) : wi_h n D' al h := by
  intro p hp
  rcases H p hp with ⟨h1, h2⟩ | ⟨h1, h2, h3, h4, h5⟩
  · refine Or.inl ⟨h1, ?_⟩
    rcases h2 with h2 | h2
    · exact Or.inl (by rw [← he p hp]; exact h2)
    · exact Or.inr (fun q hq hd => h2 q hq (by rw [he q (by omega), he p hp]; exact hd))
  · exact Or.inr ⟨h1, by rw [← he p hp]; exact h2, by rw [← he (h p) (by omega), ← he p hp]; exact h3, h4, fun q hq hd => h5 q hq (by rw [he q (by omega), he p hp]; exact hd)⟩
theorem wi_h_le {n : Nat} {D : Nat → Int32} {al : (Nat → Nat) → Nat → Nat → Prop} {h : Nat → Nat} (H : wi_h n D al h) {p : Nat} (hp : p < n) : h p ≤ p := by
  rcases H p hp with ⟨h1, _⟩ | ⟨h1, _⟩ <;> omega
section
variable {n : Nat} {a z m : Nat → Nat} {t c : Nat → Nat → Nat} {rl : Int32} {numbers letters names parts sorts values items lines : Nat → Int32}
/-- the lines that are done when level d has come to line k -/
def wq_done (D : Nat → Int32) (d k p : Nat) : Prop := (∃ e, e < d ∧ D p = Int32.ofNat e) ∨ (D p = Int32.ofNat d ∧ p < k)
/-- alike by what is known so far, alike at all -/
theorem wq_al_known (hV : wi_V n a z m t c rl numbers letters names parts sorts values items) {D : Nat → Int32} (hD : wi_D n (wi_ref a z t c values items) D) {g h : Nat → Nat} {d p q : Nat} (hd : d < n) (hp : p < n) (hq : q < n) (hDp : D p = Int32.ofNat d) (hDq : D q = Int32.ofNat d) (hgh : ∀ x, x < n → (∃ e, e < d ∧ D x = Int32.ofNat e) → g x = h x) : wi_al n a z m t c names values items g p q ↔ wi_al n a z m t c names values items h p q := by
  have hn := hV.1.1
  have agree : ∀ r, r < n → (wi_ref a z t c values items p r ∨ wi_ref a z t c values items q r) → g r = h r := by
    intro r hr hpq
    rcases hpq with e | e
    · exact hgh r hr (wi_D_less hn hD hp hd hDp hr e)
    · exact hgh r hr (wi_D_less hn hD hq hd hDq hr e)
  exact ⟨wi_al_dep hV hp hq agree, wi_al_dep hV hp hq (fun r hr e => (agree r hr e).symm)⟩
/-- the first alike one leads to itself -/
theorem wq_first {D : Nat → Int32} {h : Nat → Nat} (H : wi_h n D (wi_al n a z m t c names values items) h) {p l : Nat} (hp : p < n) (hl : l < p) (hDl : D l = D p) (hal : wi_al n a z m t c names values items h p l) (hno : ∀ q, q < l → D q = D p → ¬ wi_al n a z m t c names values items h p q) (hm : ¬ D p = -1) : h p = l ∧ h l = l := by
  constructor
  · rcases H p hp with ⟨_, h2⟩ | ⟨h1, _, h3, h4, h5⟩
    · rcases h2 with h2 | h2
      · exact absurd h2 hm
      · exact absurd hal (h2 l hl hDl)
    · apply Classical.byContradiction
      intro hc
      by_cases hlt : h p < l
      · exact hno (h p) hlt h3 h4
      · exact h5 l (by omega) hDl hal
  · rcases H l (by omega) with ⟨h1, _⟩ | ⟨h1, _, h3, h4, _⟩
    · exact h1
    · exact absurd (wi_al_trans hal h4) (hno (h l) h1 (h3.trans hDl))
theorem wq_likes60 (hV : wi_V n a z m t c rl numbers letters names parts sorts values items) (hl0 : lines 0 = Int32.ofNat n) {D : Nat → Int32} (hD : wi_D n (wi_ref a z t c values items) D) {h : Nat → Nat} (H : wi_h n D (wi_al n a z m t c names values items) h) {N d k : Nat} (hN : 41 ≤ N) (hd : d < n) (hk : k < n) (hDk : D k = Int32.ofNat d) (ways : Nat → Int64) (k27 : (Nat → Int32) → (Nat → Int32) → (Nat → Int64) → Int32 → Option (Unit × (Nat → Int32) × (Nat → Int32) × (Nat → Int64))) (k35 : (Nat → Int32) → (Nat → Int32) → (Nat → Int64) → Int32 → Int32 → Option (Unit × (Nat → Int32) × (Nat → Int32) × (Nat → Int64))) (lk : Nat → Int32)
    (hlk1 : ∀ x, x < n → wq_done D d k x → lk x = Int32.ofNat (h x)) (hlk2 : ∀ x, x < n → ¬ wq_done D d k x → lk x = Int32.ofNat x) :
    ∀ j l M, l + j = k → j + 1 < M → (∀ q, q < l → D q = D k → ¬ wi_al n a z m t c names values items h k q) →
    ∃ lk', lk' k = Int32.ofNat (h k) ∧ (∀ x, x ≠ k → lk' x = lk x) ∧ xf_rf_findLikes_60 items letters lines names numbers parts sorts values k27 k35 N M D lk ways (Int32.ofNat d) (Int32.ofNat k) (Int32.ofNat l) = k35 D lk' ways (Int32.ofNat d) (Int32.ofNat (k + 1)) := by
  have hn := hV.1.1
  have hmk : ¬ D k = -1 := by
    rw [hDk]
    exact fun hh => (wq_eqm (by omega)).mp hh
  have hkd : ¬ wq_done D d k k := by
    rintro (⟨e, e1, e2⟩ | ⟨_, e2⟩)
    · rw [hDk] at e2
      have := wq_inj (by omega) (by omega) e2
      omega
    · omega
  have hkk := hlk2 k hk hkd
  have hg : ∀ x, x < n → lk x = Int32.ofNat (lk x).toNatClampNeg ∧ (lk x).toNatClampNeg < 40 := by
    intro x hx
    by_cases hdn : wq_done D d k x
    · have h1 := wi_h_le H hx
      rw [hlk1 x hx hdn, wq_clamp (by omega)]
      exact ⟨rfl, by omega⟩
    · rw [hlk2 x hx hdn, wq_clamp (by omega)]
      exact ⟨rfl, by omega⟩
  have hgh : ∀ x, x < n → (∃ e, e < d ∧ D x = Int32.ofNat e) → (lk x).toNatClampNeg = h x := by
    intro x hx he
    have h1 := wi_h_le H hx
    rw [hlk1 x hx (Or.inl he), wq_clamp (by omega)]
  intro j
  induction j with
  | zero =>
    intro l M hl hM hno
    obtain ⟨M', rfl⟩ : ∃ M', M = M' + 1 := ⟨M - 1, by omega⟩
    have e : l = k := by omega
    subst e
    have hh : h l = l := by
      rcases H l hk with ⟨h1, _⟩ | ⟨h1, _, h3, h4, _⟩
      · exact h1
      · exact absurd h4 (hno (h l) h1 h3)
    refine ⟨lk, by rw [hh]; exact hkk, fun _ _ => rfl, ?_⟩
    simp (disch := omega) only [↓xf_rf_findLikes_60_s, ↓xf_rf_findLikes_112_s, wq_ltT, wq_ltF, wq_inT, wq_clamp, wq_eqF, wq_eqm, wq_meq, wq_add, wq_mul, wq_subT, eq_self, Bool.false_eq_true, ↓reduceIte, Option.bind_some, Sum.elim_inl, Sum.elim_inr, ↓wq_f0b, ↓wq_f1b, ↓wq_f2b, ↓wq_r0b, ↓wq_r1b, ↓Option.bind_some]
  | succ j ih =>
    intro l M hl hM hno
    obtain ⟨M', rfl⟩ : ∃ M', M = M' + 1 + 1 := ⟨M - 2, by omega⟩
    have hln : l < n := by omega
    by_cases hDl : D l = Int32.ofNat d
    · have al := wq_al_known hV hD hd hk hln hDk hDl hgh
      rcases wq_rline (lk := lk) (g := fun x => (lk x).toNatClampNeg) hV hl0 hg hN hk hln with ⟨a1, a2⟩ | ⟨a1, a2⟩
      · obtain ⟨f1, f2⟩ := wq_first H hk (by omega) (hDl.trans hDk.symm) (al.mp a1) hno hmk
        have hll : lk l = Int32.ofNat l := by
          rw [hlk1 l hln (Or.inr ⟨hDl, by omega⟩), f2]
        have e1 : xf_rf_findLikes_60 items letters lines names numbers parts sorts values k27 k35 N (M' + 1 + 1) D lk ways (Int32.ofNat d) (Int32.ofNat k) (Int32.ofNat l) = xf_rf_findLikes_60 items letters lines names numbers parts sorts values k27 k35 N (M' + 1) D (upd lk k (Int32.ofNat l)) ways (Int32.ofNat d) (Int32.ofNat k) (Int32.ofNat (l + 1)) := by
          rw [xf_rf_findLikes_60_s]
          simp (disch := omega) only [↓xf_rf_findLikes_106_s, wq_ltT, wq_ltF, wq_inT, wq_clamp, wq_eqF, wq_eqm, wq_meq, wq_add, wq_mul, wq_subT, eq_self, Bool.false_eq_true, ↓reduceIte, Option.bind_some, Sum.elim_inl, Sum.elim_inr, ↓wq_f0b, ↓wq_f1b, ↓wq_f2b, ↓wq_r0b, ↓wq_r1b, ↓Option.bind_some, hkk, hDl, ↓wq_b a2, hll]
        refine ⟨upd lk k (Int32.ofNat l), by rw [wq_upd1, f1], fun x hx => wq_upd2 hx, ?_⟩
        rw [e1]
        by_cases hlk : l + 1 < k
        · simp (disch := omega) only [↓xf_rf_findLikes_60_s, ↓xf_rf_findLikes_112_s, wq_ltT, wq_ltF, wq_inT, wq_clamp, wq_eqF, wq_eqm, wq_meq, wq_add, wq_mul, wq_subT, eq_self, Bool.false_eq_true, ↓reduceIte, Option.bind_some, Sum.elim_inl, Sum.elim_inr, ↓wq_f0b, ↓wq_f1b, ↓wq_f2b, ↓wq_r0b, ↓wq_r1b, ↓Option.bind_some, wq_upd1]
        · simp (disch := omega) only [↓xf_rf_findLikes_60_s, ↓xf_rf_findLikes_112_s, wq_ltT, wq_ltF, wq_inT, wq_clamp, wq_eqF, wq_eqm, wq_meq, wq_add, wq_mul, wq_subT, eq_self, Bool.false_eq_true, ↓reduceIte, Option.bind_some, Sum.elim_inl, Sum.elim_inr, ↓wq_f0b, ↓wq_f1b, ↓wq_f2b, ↓wq_r0b, ↓wq_r1b, ↓Option.bind_some]
      · obtain ⟨lk', i1, i2, i3⟩ := ih (l + 1) (M' + 1) (by omega) (by omega) (fun q hq hDq hal => by
          by_cases e : q = l
          · rw [e] at hal
            exact a1 (al.mpr hal)
          · exact hno q (by omega) hDq hal)
        refine ⟨lk', i1, i2, ?_⟩
        rw [← i3, xf_rf_findLikes_60_s]
        simp (disch := omega) only [↓xf_rf_findLikes_106_s, wq_ltT, wq_ltF, wq_inT, wq_clamp, wq_eqF, wq_eqm, wq_meq, wq_add, wq_mul, wq_subT, eq_self, Bool.false_eq_true, ↓reduceIte, Option.bind_some, Sum.elim_inl, Sum.elim_inr, ↓wq_f0b, ↓wq_f1b, ↓wq_f2b, ↓wq_r0b, ↓wq_r1b, ↓Option.bind_some, hkk, hDl, ↓wq_b a2]
    · obtain ⟨lk', i1, i2, i3⟩ := ih (l + 1) (M' + 1) (by omega) (by omega) (fun q hq hDq hal => by
        by_cases e : q = l
        · rw [e, hDk] at hDq
          exact hDl hDq
        · exact hno q (by omega) hDq hal)
      refine ⟨lk', i1, i2, ?_⟩
      rw [← i3, xf_rf_findLikes_60_s]
      simp (disch := omega) only [↓xf_rf_findLikes_106_s, wq_ltT, wq_ltF, wq_inT, wq_clamp, wq_eqF, wq_eqm, wq_meq, wq_add, wq_mul, wq_subT, eq_self, Bool.false_eq_true, ↓reduceIte, Option.bind_some, Sum.elim_inl, Sum.elim_inr, ↓wq_f0b, ↓wq_f1b, ↓wq_f2b, ↓wq_r0b, ↓wq_r1b, ↓Option.bind_some, hkk, hDl]
theorem wq_likes35 (hV : wi_V n a z m t c rl numbers letters names parts sorts values items) (hl0 : lines 0 = Int32.ofNat n) {D : Nat → Int32} (hD : wi_D n (wi_ref a z t c values items) D) {h : Nat → Nat} (H : wi_h n D (wi_al n a z m t c names values items) h) {N d : Nat} (hN : 60 ≤ N) (hd : d < 40) (ways : Nat → Int64) (k27 : (Nat → Int32) → (Nat → Int32) → (Nat → Int64) → Int32 → Option (Unit × (Nat → Int32) × (Nat → Int32) × (Nat → Int64))) :
    ∀ j k M (lk : Nat → Int32), k + j = n → j < M → (∀ x, x < n → wq_done D d k x → lk x = Int32.ofNat (h x)) → (∀ x, x < n → ¬ wq_done D d k x → lk x = Int32.ofNat x) →
    ∃ lk', (∀ x, x < n → wq_done D (d + 1) 0 x → lk' x = Int32.ofNat (h x)) ∧ (∀ x, x < n → ¬ wq_done D (d + 1) 0 x → lk' x = Int32.ofNat x) ∧ xf_rf_findLikes_35 items letters lines names numbers parts sorts values k27 N M D lk ways (Int32.ofNat d) (Int32.ofNat k) = k27 D lk' ways (Int32.ofNat (d + 1)) := by
  have hn := hV.1.1
  intro j
  induction j with
  | zero =>
    intro k M lk hk hM h1 h2
    obtain ⟨M', rfl⟩ : ∃ M', M = M' + 1 := ⟨M - 1, by omega⟩
    have eq : ∀ x, x < n → (wq_done D (d + 1) 0 x ↔ wq_done D d k x) := by
      intro x hx
      constructor
      · rintro (⟨e, e1, e2⟩ | ⟨_, e2⟩)
        · by_cases ed : e = d
          · rw [ed] at e2
            exact Or.inr ⟨e2, by omega⟩
          · exact Or.inl ⟨e, by omega, e2⟩
        · omega
      · rintro (⟨e, e1, e2⟩ | ⟨e1, _⟩)
        · exact Or.inl ⟨e, by omega, e2⟩
        · exact Or.inl ⟨d, by omega, e1⟩
    refine ⟨lk, fun x hx hdn => h1 x hx ((eq x hx).mp hdn), fun x hx hdn => h2 x hx (fun hh => hdn ((eq x hx).mpr hh)), ?_⟩
    simp (disch := omega) only [↓xf_rf_findLikes_35_s, wq_ltT, wq_ltF, wq_inT, wq_clamp, wq_eqF, wq_eqm, wq_meq, wq_add, wq_mul, wq_subT, eq_self, Bool.false_eq_true, ↓reduceIte, Option.bind_some, Sum.elim_inl, Sum.elim_inr, ↓wq_f0b, ↓wq_f1b, ↓wq_f2b, ↓wq_r0b, ↓wq_r1b, ↓Option.bind_some, hl0]
  | succ j ih =>
    intro k M lk hk hM h1 h2
    obtain ⟨M', rfl⟩ : ∃ M', M = M' + 1 := ⟨M - 1, by omega⟩
    have hkn : k < n := by omega
    by_cases hDk : D k = Int32.ofNat d
    · have hdn : d < n := by
        rcases wi_D_val hD hkn with e | ⟨e, e1, e2⟩
        · rw [hDk] at e
          exact ((wq_eqm (by omega)).mp e).elim
        · rw [hDk] at e2
          have := wq_inj (by omega) (by omega) e2
          omega
      obtain ⟨lk', i1, i2, i3⟩ := wq_likes60 hV hl0 hD H (N := N) (by omega) hdn hkn hDk ways k27 (xf_rf_findLikes_35 items letters lines names numbers parts sorts values k27 N M') lk h1 h2 k 0 N (by omega) (by omega) (fun q hq => absurd hq (by omega))
      obtain ⟨lk2, j1, j2, j3⟩ := ih (k + 1) M' lk' (by omega) (by omega) (fun x hx hdx => by
        by_cases e : x = k
        · rw [e]
          exact i1
        · rw [i2 x e]
          apply h1 x hx
          rcases hdx with g | ⟨g1, g2⟩
          · exact Or.inl g
          · exact Or.inr ⟨g1, by omega⟩) (fun x hx hdx => by
        have e : x ≠ k := fun e => hdx (Or.inr ⟨by rw [e]; exact hDk, by omega⟩)
        rw [i2 x e]
        apply h2 x hx
        intro g
        apply hdx
        rcases g with g | ⟨g1, g2⟩
        · exact Or.inl g
        · exact Or.inr ⟨g1, by omega⟩)
      refine ⟨lk2, j1, j2, ?_⟩
      rw [← j3, ← i3, xf_rf_findLikes_35_s]
      simp (disch := omega) only [wq_ltT, wq_ltF, wq_inT, wq_clamp, wq_eqF, wq_eqm, wq_meq, wq_add, wq_mul, wq_subT, eq_self, Bool.false_eq_true, ↓reduceIte, Option.bind_some, Sum.elim_inl, Sum.elim_inr, ↓wq_f0b, ↓wq_f1b, ↓wq_f2b, ↓wq_r0b, ↓wq_r1b, ↓Option.bind_some, hl0, hDk]
    · obtain ⟨lk2, j1, j2, j3⟩ := ih (k + 1) M' lk (by omega) (by omega) (fun x hx hdx => by
        apply h1 x hx
        rcases hdx with g | ⟨g1, g2⟩
        · exact Or.inl g
        · have e : x ≠ k := fun e => hDk (by rw [← e]; exact g1)
          exact Or.inr ⟨g1, by omega⟩) (fun x hx hdx => by
        apply h2 x hx
        intro g
        apply hdx
        rcases g with g | ⟨g1, g2⟩
        · exact Or.inl g
        · exact Or.inr ⟨g1, by omega⟩)
      refine ⟨lk2, j1, j2, ?_⟩
      rw [← j3, xf_rf_findLikes_35_s]
      simp (disch := omega) only [↓xf_rf_findLikes_112_s, wq_ltT, wq_ltF, wq_inT, wq_clamp, wq_eqF, wq_eqm, wq_meq, wq_add, wq_mul, wq_subT, eq_self, Bool.false_eq_true, ↓reduceIte, Option.bind_some, Sum.elim_inl, Sum.elim_inr, ↓wq_f0b, ↓wq_f1b, ↓wq_f2b, ↓wq_r0b, ↓wq_r1b, ↓Option.bind_some, hl0, hDk]
theorem wq_likes27 (hV : wi_V n a z m t c rl numbers letters names parts sorts values items) (hl0 : lines 0 = Int32.ofNat n) {D : Nat → Int32} (hD : wi_D n (wi_ref a z t c values items) D) {h : Nat → Nat} (H : wi_h n D (wi_al n a z m t c names values items) h) {N : Nat} (hN : 60 ≤ N) (ways : Nat → Int64) :
    ∀ j d M (lk : Nat → Int32), d + j = 40 → j < M → (∀ x, x < n → wq_done D d 0 x → lk x = Int32.ofNat (h x)) → (∀ x, x < n → ¬ wq_done D d 0 x → lk x = Int32.ofNat x) →
    ∃ lk', (∀ x, x < n → lk' x = Int32.ofNat (h x)) ∧ xf_rf_findLikes_27 items letters lines names numbers parts sorts values N M D lk ways (Int32.ofNat d) = some ((), D, lk', ways) := by
  have hn := hV.1.1
  intro j
  induction j with
  | zero =>
    intro d M lk hd hM h1 h2
    obtain ⟨M', rfl⟩ : ∃ M', M = M' + 1 := ⟨M - 1, by omega⟩
    refine ⟨lk, fun x hx => ?_, ?_⟩
    · rcases wi_D_val hD hx with e | ⟨e, e1, e2⟩
      · have hnd : ¬ wq_done D d 0 x := by
          rintro (⟨e', e1, e2⟩ | ⟨_, e2⟩)
          · rw [e] at e2
            exact (wq_meq (by omega)).mp e2
          · omega
        have hh : h x = x := by
          rcases H x hx with ⟨g1, _⟩ | ⟨_, g2, _⟩
          · exact g1
          · exact absurd e g2
        rw [h2 x hx hnd, hh]
      · exact h1 x hx (Or.inl ⟨e, by omega, e2⟩)
    · simp (disch := omega) only [↓xf_rf_findLikes_27_s, wq_ltT, wq_ltF, wq_inT, wq_clamp, wq_eqF, wq_eqm, wq_meq, wq_add, wq_mul, wq_subT, eq_self, Bool.false_eq_true, ↓reduceIte, Option.bind_some, Sum.elim_inl, Sum.elim_inr, ↓wq_f0b, ↓wq_f1b, ↓wq_f2b, ↓wq_r0b, ↓wq_r1b, ↓Option.bind_some]
  | succ j ih =>
    intro d M lk hd hM h1 h2
    obtain ⟨M', rfl⟩ : ∃ M', M = M' + 1 := ⟨M - 1, by omega⟩
    obtain ⟨lk', i1, i2, i3⟩ := wq_likes35 hV hl0 hD H (N := N) hN (d := d) (by omega) ways (xf_rf_findLikes_27 items letters lines names numbers parts sorts values N M') n 0 N lk (by omega) (by omega) h1 h2
    obtain ⟨lk2, j1, j2⟩ := ih (d + 1) M' lk' (by omega) (by omega) i1 i2
    refine ⟨lk2, j1, ?_⟩
    rw [← j2, ← i3, xf_rf_findLikes_27_s]
    simp (disch := omega) only [wq_ltT, wq_ltF, wq_inT, wq_clamp, wq_eqF, wq_eqm, wq_meq, wq_add, wq_mul, wq_subT, eq_self, Bool.false_eq_true, ↓reduceIte, Option.bind_some, Sum.elim_inl, Sum.elim_inr, ↓wq_f0b, ↓wq_f1b, ↓wq_f2b, ↓wq_r0b, ↓wq_r1b, ↓Option.bind_some]
theorem wq_likes6 (hV : wi_V n a z m t c rl numbers letters names parts sorts values items) (hl0 : lines 0 = Int32.ofNat n) {D : Nat → Int32} (hD : wi_D n (wi_ref a z t c values items) D) {h : Nat → Nat} (H : wi_h n D (wi_al n a z m t c names values items) h) {N : Nat} (hN : 60 ≤ N) (ways : Nat → Int64) :
    ∀ j k M (lk : Nat → Int32), k + j = 40 → j < M → (∀ x, x < k → lk x = Int32.ofNat x) →
    ∃ lk', (∀ x, x < n → lk' x = Int32.ofNat (h x)) ∧ xf_rf_findLikes_6 items letters lines names numbers parts sorts values N M D lk ways (Int32.ofNat k) = some ((), D, lk', ways) := by
  have hn := hV.1.1
  intro j
  induction j with
  | zero =>
    intro k M lk hk hM h1
    obtain ⟨M', rfl⟩ : ∃ M', M = M' + 1 := ⟨M - 1, by omega⟩
    obtain ⟨lk', j1, j2⟩ := wq_likes27 hV hl0 hD H hN ways 40 0 N lk (by omega) (by omega) (fun x hx hdn => by
      rcases hdn with ⟨e, e1, _⟩ | ⟨_, e2⟩
      · omega
      · omega) (fun x hx _ => h1 x (by omega))
    refine ⟨lk', j1, ?_⟩
    rw [← j2]
    simp (disch := omega) only [↓xf_rf_findLikes_6_s, wq_ltT, wq_ltF, wq_inT, wq_clamp, wq_eqF, wq_eqm, wq_meq, wq_add, wq_mul, wq_subT, eq_self, Bool.false_eq_true, ↓reduceIte, Option.bind_some, Sum.elim_inl, Sum.elim_inr, ↓wq_f0b, ↓wq_f1b, ↓wq_f2b, ↓wq_r0b, ↓wq_r1b, ↓Option.bind_some]
  | succ j ih =>
    intro k M lk hk hM h1
    obtain ⟨M', rfl⟩ : ∃ M', M = M' + 1 := ⟨M - 1, by omega⟩
    obtain ⟨lk', j1, j2⟩ := ih (k + 1) M' (upd lk k (Int32.ofNat k)) (by omega) (by omega) (fun x hx => by
      by_cases e : x = k
      · rw [e, wq_upd1]
      · rw [wq_upd2 e]
        exact h1 x (by omega))
    refine ⟨lk', j1, ?_⟩
    rw [← j2, xf_rf_findLikes_6_s]
    simp (disch := omega) only [wq_ltT, wq_ltF, wq_inT, wq_clamp, wq_eqF, wq_eqm, wq_meq, wq_add, wq_mul, wq_subT, eq_self, Bool.false_eq_true, ↓reduceIte, Option.bind_some, Sum.elim_inl, Sum.elim_inr, ↓wq_f0b, ↓wq_f1b, ↓wq_f2b, ↓wq_r0b, ↓wq_r1b, ↓Option.bind_some]
/-- the reference finds who is alike -/
theorem wq_findLikes (hV : wi_V n a z m t c rl numbers letters names parts sorts values items) (hl0 : lines 0 = Int32.ofNat n) {N : Nat} (hN : 60 ≤ N) {E : Nat → Int32} (hE : wi_D n (wi_ref a z t c values items) E) {h : Nat → Nat} (H : wi_h n E (wi_al n a z m t c names values items) h) (D lk : Nat → Int32) (ways : Nat → Int64) :
    ∃ D' lk' ways', xf_rf_findLikes items letters lines names numbers parts sorts values N D lk ways = some ((), D', lk', ways') ∧ ∀ x, x < n → lk' x = Int32.ofNat (h x) := by
  obtain ⟨D', ways', d1, d2, _⟩ := wq_findDepths hV hl0 hN D ways
  have eq := wi_D_uniq hV.1.1 hE d2
  obtain ⟨lk', j1, j2⟩ := wq_likes6 hV hl0 d2 (wi_h_congrD eq H) hN ways' 40 0 N lk (by omega) (by omega) (fun x hx => absurd hx (by omega))
  refine ⟨D', lk', ways', ?_, j1⟩
  rw [xf_rf_findLikes_s, d1, Option.bind_some]
  exact j2
end
