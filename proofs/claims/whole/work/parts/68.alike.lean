/-! THE CLASS'S GROUPS, AND ALIKE. -/
section
variable {n R u : Nat} {o a z m : Nat → Nat} {t c s : Nat → Nat → Nat} {rows used rl : Int32} {number : Nat → Int32} {name : Nat → Int64} {size order sort value start items names values ritems numbers letters parts sorts : Nat → Int32}
theorem wm_le {a : Nat → Nat} {leads : Nat → Int32} {r : Nat} (h : a r ≤ 999) : xf_le_of leads 1000 (Int32.ofNat (a r)) = some (leads (a r)) := by
  simp (disch := omega) only [↓xf_le_of_23_s, ↓xf_le_of_22_s, ↓xf_le_of_s, wq_ltT, wq_ltF, wq_inT, wq_clamp, wq_eqF, wq_eqm, wq_meq, wq_add, wq_mul, wq_subT, eq_self, Bool.false_eq_true, ↓reduceIte, Option.bind_some, Sum.elim_inl, Sum.elim_inr, ↓wq_f0b, ↓wq_f1b, ↓wq_f2b, ↓wq_r0b, ↓wq_r1b, ↓Option.bind_some]
/-- the same but for what leads: alike -/
theorem wm_sl (hV : wi_V n a z m t c rl numbers letters names parts sorts values ritems) {leads : Nat → Int32} {g : Nat → Nat} (hg : ∀ r, r < n → g r < n ∧ leads (a r) = Int32.ofNat (a (g r))) {p q : Nat} (hp : p < n) (hq : q < n) :
    wq_sl n n z m z m t c t names values ritems names values ritems (fun v => leads v.toNatClampNeg) p q ↔ wi_al n a z m t c names values ritems g p q := by
  have lam : ∀ x y, x < n → y < n → (leads (Int32.ofNat (a x)).toNatClampNeg = leads (Int32.ofNat (a y)).toNatClampNeg ↔ g (wq_ix a n (Int32.ofNat (a x))) = g (wq_ix a n (Int32.ofNat (a y)))) := by
    intro x y hx hy
    have hax := (hV.2.1 x hx).2
    have hay := (hV.2.1 y hy).2
    obtain ⟨g1, g2⟩ := hg x hx
    obtain ⟨g3, g4⟩ := hg y hy
    have hgx := (hV.2.1 _ g1).2
    have hgy := (hV.2.1 _ g3).2
    have i1 : wq_ix a n (Int32.ofNat (a x)) = x := by
      unfold wq_ix
      rw [wq_ix_at hV hx]
      rfl
    have i2 : wq_ix a n (Int32.ofNat (a y)) = y := by
      unfold wq_ix
      rw [wq_ix_at hV hy]
      rfl
    rw [wq_clamp (by omega), wq_clamp (by omega), g2, g4, i1, i2]
    constructor
    · intro e
      have e2 := wq_inj (by omega) (by omega) e
      apply Classical.byContradiction
      intro hne
      by_cases hlt : g x < g y
      · have := hV.2.2.1 _ _ hlt g3
        omega
      · have := hV.2.2.1 (g y) (g x) (by omega) g1
        omega
    · intro e
      rw [e]
  have one : ∀ k, k < z p → k < z q → (wq_sa (t p k) (t q k) (c p k) (values (8 * p + k)) (values (8 * q + k)) (fun i => ritems (20 * (8 * p + k) + i)) (fun i => ritems (20 * (8 * q + k) + i)) (fun v => leads v.toNatClampNeg) ↔ wi_ala n a t c values ritems g p q k) := by
    intro k hk hk'
    obtain ⟨_, w, w', w0, w1, w2, w3, w4, w5, w6⟩ := hV.2.2.2.2.2 p k hp hk
    obtain ⟨_, x, x', x0, x1, x2, x3, x4, x5, x6⟩ := hV.2.2.2.2.2 q k hq hk'
    have i1 := wq_isItems hV hp hk
    have i2 := wq_isItems hV hq hk'
    unfold wq_sa wi_ala
    constructor
    · rintro ⟨ht, h2, h3⟩
      refine ⟨ht, fun e => (h3 (by omega)).1, fun e => ?_, fun e => ?_, fun e => ?_⟩
      · obtain ⟨_, r, r1, r2⟩ := w2 e
        obtain ⟨_, r', r1', r2'⟩ := x2 (by omega)
        have := h2 e
        rw [r2, r2'] at this ⊢
        exact (lam r r' r1 r1').mp this
      · obtain ⟨b1, b2, b3⟩ := h3 (by omega)
        have hc : c p k = c q k := by
          rcases i1 with ⟨y1, _⟩ | ⟨_, _, _, _, y5, y6⟩
          · omega
          · rcases i2 with ⟨y1', _⟩ | ⟨_, _, _, _, y5', y6'⟩
            · omega
            · rw [y5, y5'] at b1
              exact wq_inj (by omega) (by omega) b1
        exact ⟨hc, fun i hi => b3 e i hi⟩
      · obtain ⟨b1, b2, b3⟩ := h3 (by omega)
        have hc : c p k = c q k := by
          rcases i1 with ⟨y1, _⟩ | ⟨_, _, _, _, y5, y6⟩
          · omega
          · rcases i2 with ⟨y1', _⟩ | ⟨_, _, _, _, y5', y6'⟩
            · omega
            · rw [y5, y5'] at b1
              exact wq_inj (by omega) (by omega) b1
        refine ⟨hc, fun i hi => ?_⟩
        obtain ⟨r, r1, r2⟩ := (w4 e).2.2 i hi
        obtain ⟨r', r1', r2'⟩ := (x4 (by omega)).2.2 i (by omega)
        have e1 : ritems (20 * (8 * p + k) + i) = Int32.ofNat (a r) := r2
        have e2 : ritems (20 * (8 * q + k) + i) = Int32.ofNat (a r') := r2'
        have := b2 e i hi
        have this2 : leads (ritems (20 * (8 * p + k) + i)).toNatClampNeg = leads (ritems (20 * (8 * q + k) + i)).toNatClampNeg := this
        rw [e1, e2] at this2 ⊢
        exact (lam r r' r1 r1').mp this2
    · rintro ⟨ht, h06, h2, h135, h4⟩
      refine ⟨ht, fun e => ?_, fun e => ⟨?_, fun e4 i hi => ?_, fun e1 => (h135 e1).2⟩⟩
      · obtain ⟨_, r, r1, r2⟩ := w2 e
        obtain ⟨_, r', r1', r2'⟩ := x2 (by omega)
        have := h2 e
        show leads (values (8 * p + k)).toNatClampNeg = leads (values (8 * q + k)).toNatClampNeg
        rw [r2, r2'] at this ⊢
        exact (lam r r' r1 r1').mpr this
      · by_cases e06 : t p k = 0 ∨ t p k = 6
        · exact h06 e06
        · have hc : c p k = c q k := by
            by_cases e4 : t p k = 4
            · exact (h4 e4).1
            · exact (h135 (by omega)).1
          rcases i1 with ⟨y1, _⟩ | ⟨_, _, _, _, y5, y6⟩
          · omega
          · rcases i2 with ⟨y1', _⟩ | ⟨_, _, _, _, y5', y6'⟩
            · omega
            · rw [y5, y5', hc]
      · obtain ⟨r, r1, r2⟩ := (w4 e4).2.2 i hi
        obtain ⟨r', r1', r2'⟩ := (x4 (by omega)).2.2 i (by have := (h4 e4).1; omega)
        have e1 : ritems (20 * (8 * p + k) + i) = Int32.ofNat (a r) := r2
        have e2 : ritems (20 * (8 * q + k) + i) = Int32.ofNat (a r') := r2'
        have := (h4 e4).2 i hi
        show leads (ritems (20 * (8 * p + k) + i)).toNatClampNeg = leads (ritems (20 * (8 * q + k) + i)).toNatClampNeg
        rw [e1, e2] at this ⊢
        exact (lam r r' r1 r1').mpr this
  constructor
  · rintro ⟨⟨h1, h2⟩, h3, h4⟩
    exact ⟨h1, h2, h3, fun k hk => (one k hk (by omega)).mp (h4 k hk)⟩
  · rintro ⟨h1, h2, h3, h4⟩
    exact ⟨⟨h1, h2⟩, h3, fun k hk => (one k hk (by omega)).mpr (h4 k hk)⟩
/-- the first alike line of a line -/
theorem wm_first (hM : wi_M n R u o a z m t c s rows (Int32.ofNat n) used number name size order sort value start items names values ritems) (hV : wi_V n a z m t c rl numbers letters names parts sorts values ritems) {depth : Nat → Int32} (hD : wi_D n (wi_ref a z t c values ritems) (fun p => depth (o p))) {h : Nat → Nat} (H : wi_h n (fun p => depth (o p)) (wi_al n a z m t c names values ritems) h) {N d k : Nat} (hN : 60 ≤ N) (hd : d < n) (hk : k < n) (hDk : depth (o k) = Int32.ofNat d) {leads : Nat → Int32} {g : Nat → Nat} (hg : ∀ r, r < n → g r < n ∧ leads (a r) = Int32.ofNat (a (g r))) (hgh : ∀ x, x < n → (∃ e, e < d ∧ depth (o x) = Int32.ofNat e) → g x = h x) :
    xf_gr_firstAlike depth leads items (Int32.ofNat n) name number order size sort start used value 1000 N (Int32.ofNat (o k)) (Int32.ofNat k) = some (Int32.ofNat (a (h k))) := by
  have hn := hV.1.1
  have hr := wm_row hM
  have hmk : ¬ depth (o k) = -1 := by
    rw [hDk]
    exact fun hh => (wq_eqm (by omega)).mp hh
  rw [xf_gr_firstAlike_s]
  suffices S : ∀ j l M, l + j = k → j < M → (∀ q, q < l → depth (o q) = depth (o k) → ¬ wi_al n a z m t c names values ritems h k q) → xf_gr_firstAlike_2 depth leads items (Int32.ofNat n) name number order size sort start used value 1000 N M (Int32.ofNat (o k)) (Int32.ofNat k) (Int32.ofNat l) = some (Int32.ofNat (a (h k))) from S k 0 N (by omega) (by omega) (fun q hq => absurd hq (by omega))
  intro j
  obtain ⟨k1, k2, k3⟩ := hr k hk
  induction j with
  | zero =>
    intro l M hl hM' hno
    obtain ⟨M', rfl⟩ : ∃ M', M = M' + 1 := ⟨M - 1, by omega⟩
    have e : l = k := by omega
    subst e
    have hh : h l = l := by
      rcases H l hk with ⟨h1, _⟩ | ⟨h1, _, h3, h4, _⟩
      · exact h1
      · exact absurd h4 (hno (h l) h1 h3)
    simp (disch := omega) only [↓xf_gr_firstAlike_2_s, wq_ltT, wq_ltF, wq_inT, wq_clamp, wq_eqF, wq_eqm, wq_meq, wq_add, wq_mul, wq_subT, eq_self, Bool.false_eq_true, ↓reduceIte, Option.bind_some, Sum.elim_inl, Sum.elim_inr, ↓wq_f0b, ↓wq_f1b, ↓wq_f2b, ↓wq_r0b, ↓wq_r1b, ↓Option.bind_some, k3, hh]
  | succ j ih =>
    intro l M hl hM' hno
    obtain ⟨M', rfl⟩ : ∃ M', M = M' + 1 := ⟨M - 1, by omega⟩
    have hln : l < n := by omega
    obtain ⟨l1, l2, l3⟩ := hr l hln
    have e1 := wq_rowAt hn (fun p hp => (hr p hp).2.1) hln
    by_cases hDl : depth (o l) = Int32.ofNat d
    · have al := wq_al_known hV hD hd hk hln hDk hDl hgh
      have sl := wm_sl hV hg hk hln
      have hle : ∀ r, r < n → xf_le_of leads 1000 (Int32.ofNat (a r)) = some ((fun v : Int32 => leads v.toNatClampNeg) (Int32.ofNat (a r))) := by
        intro r hr'
        have := (hV.2.1 r hr').2
        rw [wm_le (by omega)]
        show some (leads (a r)) = some (leads (Int32.ofNat (a r)).toNatClampNeg)
        rw [wq_clamp (by omega)]
      rcases wq_sameLine (to := leads) (nn := 1000) (N := N) (lam := fun v => leads v.toNatClampNeg) hM hV hM hV (by omega) hk hln hle hle with ⟨a1, a2⟩ | ⟨a1, a2⟩
      · obtain ⟨f1, f2⟩ := wq_first H hk (by omega) (hDl.trans hDk.symm) (al.mp (sl.mp a1)) hno hmk
        simp (disch := omega) only [↓xf_gr_firstAlike_2_s, wq_ltT, wq_ltF, wq_inT, wq_clamp, wq_eqF, wq_eqm, wq_meq, wq_add, wq_mul, wq_subT, eq_self, Bool.false_eq_true, ↓reduceIte, Option.bind_some, Sum.elim_inl, Sum.elim_inr, ↓wq_f0b, ↓wq_f1b, ↓wq_f2b, ↓wq_r0b, ↓wq_r1b, ↓Option.bind_some, ↓wq_b e1, hDl, hDk, ↓wq_b a2, l3, f1]
      · have i3 := ih (l + 1) M' (by omega) (by omega) (fun q hq hDq hal => by
          by_cases e : q = l
          · rw [e] at hal
            exact a1 (sl.mpr (al.mpr hal))
          · exact hno q (by omega) hDq hal)
        rw [← i3, xf_gr_firstAlike_2_s]
        simp (disch := omega) only [↓xf_gr_firstAlike_65_s, wq_ltT, wq_ltF, wq_inT, wq_clamp, wq_eqF, wq_eqm, wq_meq, wq_add, wq_mul, wq_subT, eq_self, Bool.false_eq_true, ↓reduceIte, Option.bind_some, Sum.elim_inl, Sum.elim_inr, ↓wq_f0b, ↓wq_f1b, ↓wq_f2b, ↓wq_r0b, ↓wq_r1b, ↓Option.bind_some, ↓wq_b e1, hDl, hDk, ↓wq_b a2]
    · have i3 := ih (l + 1) M' (by omega) (by omega) (fun q hq hDq hal => by
        by_cases e : q = l
        · rw [e, hDk] at hDq
          exact hDl hDq
        · exact hno q (by omega) hDq hal)
      rw [← i3, xf_gr_firstAlike_2_s]
      simp (disch := omega) only [↓xf_gr_firstAlike_65_s, wq_ltT, wq_ltF, wq_inT, wq_clamp, wq_eqF, wq_eqm, wq_meq, wq_add, wq_mul, wq_subT, eq_self, Bool.false_eq_true, ↓reduceIte, Option.bind_some, Sum.elim_inl, Sum.elim_inr, ↓wq_f0b, ↓wq_f1b, ↓wq_f2b, ↓wq_r0b, ↓wq_r1b, ↓Option.bind_some, ↓wq_b e1, hDl, hDk]
theorem wm_point {leads : Nat → Int32} {k : Nat} {v : Int32} (h : k ≤ 999) : xf_le_point 1000 leads (Int32.ofNat k) v = some ((), upd leads k v) := by
  simp (disch := omega) only [↓xf_le_point_20_s, ↓xf_le_point_s, wq_ltT, wq_ltF, wq_inT, wq_clamp, wq_eqF, wq_eqm, wq_meq, wq_add, wq_mul, wq_subT, eq_self, Bool.false_eq_true, ↓reduceIte, Option.bind_some, Sum.elim_inl, Sum.elim_inr, ↓wq_f0b, ↓wq_f1b, ↓wq_f2b, ↓wq_r0b, ↓wq_r1b, ↓Option.bind_some]
theorem wm_inja (hV : wi_V n a z m t c rl numbers letters names parts sorts values ritems) {p q : Nat} (hp : p < n) (hq : q < n) (h : a p = a q) : p = q := by
  apply Classical.byContradiction
  intro hne
  by_cases hlt : p < q
  · have := hV.2.2.1 _ _ hlt hq
    omega
  · have := hV.2.2.1 q p (by omega) hp
    omega
/-- one level -/
theorem wm_group83 (hM : wi_M n R u o a z m t c s rows (Int32.ofNat n) used number name size order sort value start items names values ritems) (hV : wi_V n a z m t c rl numbers letters names parts sorts values ritems) {depth : Nat → Int32} (hD : wi_D n (wi_ref a z t c values ritems) (fun p => depth (o p))) {h : Nat → Nat} (H : wi_h n (fun p => depth (o p)) (wi_al n a z m t c names values ritems) h) {N d : Nat} (hN : 60 ≤ N) (hd : d < n) (gr v1 : Int32) (k76 : Int32 → (Nat → Int32) → Int32 → Int32 → Option (Unit × Int32 × (Nat → Int32))) :
    ∀ j k M (leads : Nat → Int32), k + j = n → j < M → (∀ x, x < n → wq_done (fun p => depth (o p)) d k x → leads (a x) = Int32.ofNat (a (h x))) → (∀ x, x < n → ¬ wq_done (fun p => depth (o p)) d k x → leads (a x) = Int32.ofNat (a x)) →
    ∃ leads', (∀ x, x < n → wq_done (fun p => depth (o p)) (d + 1) 0 x → leads' (a x) = Int32.ofNat (a (h x))) ∧ (∀ x, x < n → ¬ wq_done (fun p => depth (o p)) (d + 1) 0 x → leads' (a x) = Int32.ofNat (a x)) ∧ xf_gr_group_83 depth items (Int32.ofNat n) name number order size sort start used value 1000 k76 N M gr leads v1 (Int32.ofNat d) (Int32.ofNat k) = k76 gr leads' v1 (Int32.ofNat (d + 1)) := by
  have hn := hV.1.1
  have hr := wm_row hM
  intro j
  induction j with
  | zero =>
    intro k M leads hk hM' h1 h2
    obtain ⟨M', rfl⟩ : ∃ M', M = M' + 1 := ⟨M - 1, by omega⟩
    have eq : ∀ x, x < n → (wq_done (fun p => depth (o p)) (d + 1) 0 x ↔ wq_done (fun p => depth (o p)) d k x) := by
      intro x hx
      constructor
      · rintro (⟨e, e1, e2⟩ | ⟨_, e2⟩)
        · by_cases ed : e = d
          · rw [ed] at e2
            exact Or.inr ⟨e2, by omega⟩
          · exact Or.inl ⟨e, by omega, e2⟩
        · omega
      · rintro (⟨e, e1, e2⟩ | ⟨e1, _⟩)
        · exact Or.inl ⟨e, by omega, e2⟩
        · exact Or.inl ⟨d, by omega, e1⟩
    refine ⟨leads, fun x hx hdn => h1 x hx ((eq x hx).mp hdn), fun x hx hdn => h2 x hx (fun hh => hdn ((eq x hx).mpr hh)), ?_⟩
    simp (disch := omega) only [↓xf_gr_group_83_s, wq_ltT, wq_ltF, wq_inT, wq_clamp, wq_eqF, wq_eqm, wq_meq, wq_add, wq_mul, wq_subT, eq_self, Bool.false_eq_true, ↓reduceIte, Option.bind_some, Sum.elim_inl, Sum.elim_inr, ↓wq_f0b, ↓wq_f1b, ↓wq_f2b, ↓wq_r0b, ↓wq_r1b, ↓Option.bind_some]
  | succ j ih =>
    intro k M leads hk hM' h1 h2
    obtain ⟨M', rfl⟩ : ∃ M', M = M' + 1 := ⟨M - 1, by omega⟩
    have hkn : k < n := by omega
    obtain ⟨r1, r2, r3⟩ := hr k hkn
    have hak := (hV.2.1 k hkn).2
    have e1 := wq_rowAt hn (fun p hp => (hr p hp).2.1) hkn
    by_cases hDk : depth (o k) = Int32.ofNat d
    · have hg : ∀ x, x < n → (wq_ix a n (leads (a x))) < n ∧ leads (a x) = Int32.ofNat (a (wq_ix a n (leads (a x)))) := by
        intro x hx
        have key : ∀ y, y < n → leads (a x) = Int32.ofNat (a y) → (wq_ix a n (leads (a x))) < n ∧ leads (a x) = Int32.ofNat (a (wq_ix a n (leads (a x)))) := by
          intro y hy e
          have : wq_ix a n (leads (a x)) = y := by
            unfold wq_ix
            rw [e, wq_ix_at hV hy]
            rfl
          rw [this]
          exact ⟨hy, e⟩
        by_cases hdn : wq_done (fun p => depth (o p)) d k x
        · have := wi_h_le H hx
          exact key (h x) (by omega) (h1 x hx hdn)
        · exact key x hx (h2 x hx hdn)
      have hgh : ∀ x, x < n → (∃ e, e < d ∧ depth (o x) = Int32.ofNat e) → wq_ix a n (leads (a x)) = h x := by
        intro x hx he
        have := wi_h_le H hx
        have e2 := h1 x hx (Or.inl he)
        unfold wq_ix
        rw [e2, wq_ix_at hV (by omega)]
        rfl
      have fa := wm_first hM hV hD H hN hd hkn hDk hg hgh
      have hhk := wi_h_le H hkn
      have pt := wm_point (leads := leads) (k := a k) (v := Int32.ofNat (a (h k))) (by omega)
      obtain ⟨leads2, j1, j2, j3⟩ := ih (k + 1) M' (upd leads (a k) (Int32.ofNat (a (h k)))) (by omega) (by omega) (fun x hx hdx => by
        by_cases e : x = k
        · rw [e, wq_upd1]
        · rw [wq_upd2 (fun hh => e (wm_inja hV hx hkn hh))]
          apply h1 x hx
          rcases hdx with g | ⟨g1, g2⟩
          · exact Or.inl g
          · exact Or.inr ⟨g1, by omega⟩) (fun x hx hdx => by
        have e : x ≠ k := fun e => hdx (Or.inr ⟨by rw [e]; exact hDk, by omega⟩)
        rw [wq_upd2 (fun hh => e (wm_inja hV hx hkn hh))]
        apply h2 x hx
        intro g
        apply hdx
        rcases g with g | ⟨g1, g2⟩
        · exact Or.inl g
        · exact Or.inr ⟨g1, by omega⟩)
      refine ⟨leads2, j1, j2, ?_⟩
      rw [← j3, xf_gr_group_83_s]
      simp (disch := omega) only [↓xf_gr_group_139_s, wq_ltT, wq_ltF, wq_inT, wq_clamp, wq_eqF, wq_eqm, wq_meq, wq_add, wq_mul, wq_subT, eq_self, Bool.false_eq_true, ↓reduceIte, Option.bind_some, Sum.elim_inl, Sum.elim_inr, ↓wq_f0b, ↓wq_f1b, ↓wq_f2b, ↓wq_r0b, ↓wq_r1b, ↓Option.bind_some, ↓wq_b e1, hDk, ↓wq_b fa, r3, ↓wq_b pt]
    · obtain ⟨leads2, j1, j2, j3⟩ := ih (k + 1) M' leads (by omega) (by omega) (fun x hx hdx => by
        apply h1 x hx
        rcases hdx with g | ⟨g1, g2⟩
        · exact Or.inl g
        · have e : x ≠ k := fun e => hDk (by rw [← e]; exact g1)
          exact Or.inr ⟨g1, by omega⟩) (fun x hx hdx => by
        apply h2 x hx
        intro g
        apply hdx
        rcases g with g | ⟨g1, g2⟩
        · exact Or.inl g
        · exact Or.inr ⟨g1, by omega⟩)
      refine ⟨leads2, j1, j2, ?_⟩
      rw [← j3, xf_gr_group_83_s]
      simp (disch := omega) only [↓xf_gr_group_139_s, wq_ltT, wq_ltF, wq_inT, wq_clamp, wq_eqF, wq_eqm, wq_meq, wq_add, wq_mul, wq_subT, eq_self, Bool.false_eq_true, ↓reduceIte, Option.bind_some, Sum.elim_inl, Sum.elim_inr, ↓wq_f0b, ↓wq_f1b, ↓wq_f2b, ↓wq_r0b, ↓wq_r1b, ↓Option.bind_some, ↓wq_b e1, hDk]
theorem wm_group76 (hM : wi_M n R u o a z m t c s rows (Int32.ofNat n) used number name size order sort value start items names values ritems) (hV : wi_V n a z m t c rl numbers letters names parts sorts values ritems) {depth : Nat → Int32} (hD : wi_D n (wi_ref a z t c values ritems) (fun p => depth (o p))) {h : Nat → Nat} (H : wi_h n (fun p => depth (o p)) (wi_al n a z m t c names values ritems) h) {N y : Nat} (hN : 60 ≤ N) (hy : y ≤ n) (hy2 : ∀ x e, x < n → e < n → depth (o x) = Int32.ofNat e → e < y) (gr : Int32) :
    ∀ j d M (leads : Nat → Int32), d + j = y → j < M → (∀ x, x < n → wq_done (fun p => depth (o p)) d 0 x → leads (a x) = Int32.ofNat (a (h x))) → (∀ x, x < n → ¬ wq_done (fun p => depth (o p)) d 0 x → leads (a x) = Int32.ofNat (a x)) →
    ∃ leads', (∀ x, x < n → leads' (a x) = Int32.ofNat (a (h x))) ∧ xf_gr_group_76 depth items (Int32.ofNat n) name number order size sort start used value 1000 N M gr leads (wq_pr y) (Int32.ofNat d) = some ((), Int32.ofNat 1, leads') := by
  have hn := hV.1.1
  intro j
  induction j with
  | zero =>
    intro d M leads hd hM' h1 h2
    obtain ⟨M', rfl⟩ : ∃ M', M = M' + 1 := ⟨M - 1, by omega⟩
    refine ⟨leads, fun x hx => ?_, ?_⟩
    · rcases wi_D_val hD hx with e | ⟨e, e1, e2⟩
      · have e' : depth (o x) = -1 := e
        have hnd : ¬ wq_done (fun p => depth (o p)) d 0 x := by
          rintro (⟨e2, e1, e3⟩ | ⟨_, e3⟩)
          · have e4 : depth (o x) = Int32.ofNat e2 := e3
            rw [e'] at e4
            exact (wq_meq (by omega)).mp e4
          · omega
        have hh : h x = x := by
          rcases H x hx with ⟨g1, _⟩ | ⟨_, g2, _⟩
          · exact g1
          · exact absurd e g2
        rw [h2 x hx hnd, hh]
      · exact h1 x hx (Or.inl ⟨e, by have := hy2 x e hx e1 e2; omega, e2⟩)
    · have lt : (wq_pr y < Int32.ofNat d) = True := by
        apply eq_true
        unfold wq_pr
        by_cases y0 : y = 0
        · rw [if_pos y0]
          exact of_eq_true (wq_mlt (by omega))
        · rw [if_neg y0]
          exact of_eq_true (wq_ltT (by omega) (by omega))
      simp (disch := omega) only [↓xf_gr_group_76_s, wq_ltT, wq_ltF, wq_inT, wq_clamp, wq_eqF, wq_eqm, wq_meq, wq_add, wq_mul, wq_subT, eq_self, Bool.false_eq_true, ↓reduceIte, Option.bind_some, Sum.elim_inl, Sum.elim_inr, ↓wq_f0b, ↓wq_f1b, ↓wq_f2b, ↓wq_r0b, ↓wq_r1b, ↓Option.bind_some, lt]
  | succ j ih =>
    intro d M leads hd hM' h1 h2
    obtain ⟨M', rfl⟩ : ∃ M', M = M' + 1 := ⟨M - 1, by omega⟩
    obtain ⟨leads1, i1, i2, i3⟩ := wm_group83 hM hV hD H hN (d := d) (by omega) gr (wq_pr y) (xf_gr_group_76 depth items (Int32.ofNat n) name number order size sort start used value 1000 N M') n 0 N leads (by omega) (by omega) h1 h2
    obtain ⟨leads2, j1, j2⟩ := ih (d + 1) M' leads1 (by omega) (by omega) i1 i2
    have lt : (wq_pr y < Int32.ofNat d) = False := by
      apply eq_false
      unfold wq_pr
      rw [if_neg (by omega)]
      exact fun hh => (wq_ltF (by omega) (by omega)).mp hh
    refine ⟨leads2, j1, ?_⟩
    rw [← j2, ← i3, xf_gr_group_76_s]
    simp (disch := omega) only [wq_ltT, wq_ltF, wq_inT, wq_clamp, wq_eqF, wq_eqm, wq_meq, wq_add, wq_mul, wq_subT, eq_self, Bool.false_eq_true, ↓reduceIte, Option.bind_some, Sum.elim_inl, Sum.elim_inr, ↓wq_f0b, ↓wq_f1b, ↓wq_f2b, ↓wq_r0b, ↓wq_r1b, ↓Option.bind_some, lt]
theorem wm_group12 (hM : wi_M n R u o a z m t c s rows (Int32.ofNat n) used number name size order sort value start items names values ritems) (hV : wi_V n a z m t c rl numbers letters names parts sorts values ritems) {depth : Nat → Int32} (hD : wi_D n (wi_ref a z t c values ritems) (fun p => depth (o p))) {h : Nat → Nat} (H : wi_h n (fun p => depth (o p)) (wi_al n a z m t c names values ritems) h) {N : Nat} (hN : 60 ≤ N) (gr : Int32) :
    ∀ j k M (leads : Nat → Int32) (y : Nat), k + j = n → j < M → y ≤ n → (∀ x, x < k → leads (a x) = Int32.ofNat (a x)) → (∀ x e, x < k → e < n → depth (o x) = Int32.ofNat e → e < y) →
    ∃ leads', (∀ x, x < n → leads' (a x) = Int32.ofNat (a (h x))) ∧ xf_gr_group_12 depth items (Int32.ofNat n) name number order size sort start used value 1000 N M gr leads (wq_pr y) (Int32.ofNat k) = some ((), Int32.ofNat 1, leads') := by
  have hn := hV.1.1
  have hr := wm_row hM
  intro j
  induction j with
  | zero =>
    intro k M leads y hk hM' hy h1 h2
    obtain ⟨M', rfl⟩ : ∃ M', M = M' + 1 := ⟨M - 1, by omega⟩
    obtain ⟨leads', j1, j2⟩ := wm_group76 hM hV hD H hN hy (fun x e hx => h2 x e (by omega)) gr y 0 N leads (by omega) (by omega) (fun x hx hdn => by
      rcases hdn with ⟨e, e1, _⟩ | ⟨_, e2⟩
      · omega
      · omega) (fun x hx _ => h1 x (by omega))
    refine ⟨leads', j1, ?_⟩
    rw [← j2]
    simp (disch := omega) only [↓xf_gr_group_12_s, wq_ltT, wq_ltF, wq_inT, wq_clamp, wq_eqF, wq_eqm, wq_meq, wq_add, wq_mul, wq_subT, eq_self, Bool.false_eq_true, ↓reduceIte, Option.bind_some, Sum.elim_inl, Sum.elim_inr, ↓wq_f0b, ↓wq_f1b, ↓wq_f2b, ↓wq_r0b, ↓wq_r1b, ↓Option.bind_some]
  | succ j ih =>
    intro k M leads y hk hM' hy h1 h2
    obtain ⟨M', rfl⟩ : ∃ M', M = M' + 1 := ⟨M - 1, by omega⟩
    have hkn : k < n := by omega
    obtain ⟨r1, r2, r3⟩ := hr k hkn
    have hak := (hV.2.1 k hkn).2
    have e1 := wq_rowAt hn (fun p hp => (hr p hp).2.1) hkn
    have pt := wm_point (leads := leads) (k := a k) (v := Int32.ofNat (a k)) (by omega)
    have mx : ∃ y', y' ≤ n ∧ y ≤ y' ∧ (∀ e, e < n → depth (o k) = Int32.ofNat e → e < y') ∧ xe_max (wq_pr y) (depth (o k)) = wq_pr y' := by
      rcases wi_D_val hD hkn with e | ⟨e, e1, e2⟩
      · have e' : depth (o k) = -1 := e
        refine ⟨y, hy, Nat.le_refl y, fun e2 h2 h3 => ?_, ?_⟩
        · rw [e'] at h3
          exact ((wq_meq (by omega)).mp h3).elim
        · rw [e']
          unfold wq_pr
          by_cases y0 : y = 0
          · rw [if_pos y0]
            exact if_neg (by decide)
          · rw [if_neg y0]
            exact if_neg (fun hh => (wq_ltm (by omega)).mp hh)
      · have e' : depth (o k) = Int32.ofNat e := e2
        rw [e']
        by_cases hye : y < e + 1
        · refine ⟨e + 1, by omega, by omega, fun e3 h2 h3 => ?_, ?_⟩
          · have := wq_inj (by omega) (by omega) h3
            omega
          · have e3 : wq_pr (e + 1) = Int32.ofNat e := by
              unfold wq_pr
              rw [if_neg (by omega), show e + 1 - 1 = e by omega]
            rw [e3]
            unfold wq_pr
            by_cases y0 : y = 0
            · rw [if_pos y0]
              exact if_pos (of_eq_true (wq_mlt (a := e) (by omega)))
            · rw [if_neg y0]
              exact if_pos (of_eq_true (wq_ltT (a := y - 1) (b := e) (by omega) (by omega)))
        · refine ⟨y, hy, Nat.le_refl y, fun e3 h2 h3 => ?_, ?_⟩
          · have := wq_inj (by omega) (by omega) h3
            omega
          · unfold wq_pr
            rw [if_neg (by omega)]
            exact if_neg (fun hh => (wq_ltF (by omega) (by omega)).mp hh)
    obtain ⟨y', y1, y2, y3, y4⟩ := mx
    obtain ⟨leads', i1, i2⟩ := ih (k + 1) M' (upd leads (a k) (Int32.ofNat (a k))) y' (by omega) (by omega) y1 (fun x hx => by
      by_cases e : x = k
      · rw [e, wq_upd1]
      · rw [wq_upd2 (fun hh => e (wm_inja hV (by omega) hkn hh))]
        exact h1 x (by omega)) (fun x e hx he hdx => by
      by_cases ek : x = k
      · rw [ek] at hdx
        exact y3 e he hdx
      · have := h2 x e (by omega) he hdx
        omega)
    refine ⟨leads', i1, ?_⟩
    rw [← i2, xf_gr_group_12_s]
    simp (disch := omega) only [wq_ltT, wq_ltF, wq_inT, wq_clamp, wq_eqF, wq_eqm, wq_meq, wq_add, wq_mul, wq_subT, eq_self, Bool.false_eq_true, ↓reduceIte, Option.bind_some, Sum.elim_inl, Sum.elim_inr, ↓wq_f0b, ↓wq_f1b, ↓wq_f2b, ↓wq_r0b, ↓wq_r1b, ↓Option.bind_some, ↓wq_b e1, r3, ↓wq_b pt, y4]
/-- the class knows its groups -/
theorem wm_group (hM : wi_M n R u o a z m t c s rows (Int32.ofNat n) used number name size order sort value start items names values ritems) (hV : wi_V n a z m t c rl numbers letters names parts sorts values ritems) {depth : Nat → Int32} (hD : wi_D n (wi_ref a z t c values ritems) (fun p => depth (o p))) {N : Nat} (hN : 60 ≤ N) {gr : Int32} {leads : Nat → Int32} (hL : wi_L n a o (wi_al n a z m t c names values ritems) depth gr leads) :
    ∃ (h : Nat → Nat) (gr' : Int32) (leads' : Nat → Int32), wi_h n (fun p => depth (o p)) (wi_al n a z m t c names values ritems) h ∧ (∀ x, x < n → leads' (a x) = Int32.ofNat (a (h x))) ∧ xf_gr_group depth items (Int32.ofNat n) name number order size sort start used value 1000 N gr leads = some ((), gr', leads') := by
  by_cases h0 : gr = Int32.ofNat 0
  · obtain ⟨h, H⟩ := wi_h_ex hV hD
    obtain ⟨leads', j1, j2⟩ := wm_group12 hM hV hD H hN gr n 0 N leads 0 (by omega) (by have := hV.1.1; omega) (by omega) (fun x hx => absurd hx (by omega)) (fun x e hx => absurd hx (by omega))
    refine ⟨h, Int32.ofNat 1, leads', H, j1, ?_⟩
    rw [xf_gr_group_s, if_pos h0]
    exact j2
  · rcases hL with e | ⟨h, H, hl⟩
    · exact absurd e h0
    · refine ⟨h, gr, leads, H, hl, ?_⟩
      rw [xf_gr_group_s, if_neg h0]
end
theorem wc_16 {sc : Nat × (Nat → Int32)} {N : Nat} (hN : 60 ≤ N) : wp_Ok sc wi_I (xf_law_16 sc N) := by
  apply wp_red_16
  intro A L S x y hI
  obtain ⟨hT, hK, ⟨n, R, u, o, a, z, m, t, c, s, hm⟩, hkept⟩ := id hI
  have ef0 : (fits .boolean (.int (Int32.ofNat 0)) = true) = True := by decide
  have ef1 : (fits .boolean (.int (Int32.ofNat 1)) = true) = True := by decide
  have e1 := wi_rowOf hm (N := N) (by omega) x
  have e2 := wi_find hm (N := N) (by omega) x
  have e1' := wi_rowOf hm (N := N) (by omega) y
  have e2' := wi_find hm (N := N) (by omega) y
  obtain ⟨hn, hn2, hn3⟩ := wi_n hm
  have stay : ∀ (d lk : Nat → Int32) (w f : Nat → Int64) (v : Int32), wi_I (xy_a (xy_a (xy_a A 74 d) 75 lk) 47 (A 47)) (xy_l (xy_l L 76 w) 77 f) (xy_s (xy_s S 57 0 v) 42 5 (S 42 5)) := fun _ _ _ _ _ => hI
  cases hf : wq_fx a n x with
  | none =>
    rw [hf] at e1 e2
    have h1 : xf_la_alike (A 45) (A 23) (S 15 1) (L 17) (A 16) (A 19) (A 18) (A 20) (A 22) (S 15 2) (A 21) 1000 1 N (S 42 5) (A 47) (L 77) x y = some (Int32.ofNat 1, S 42 5, A 47, L 77) := by
      simp (disch := omega) only [↓xf_la_alike_16_s, ↓xf_la_alike_s, ↓xf_xt_alike_49_s, ↓xf_xt_alike_s, ↓xf_xt_rowOrRefuse_19_s, ↓xf_xt_rowOrRefuse_s, e1, ↓wq_b e1, wq_or, wq_ltT, wq_ltF, wq_inT, wq_clamp, wq_eqF, wq_eqm, wq_meq, wq_add, wq_mul, wq_subT, eq_self, Bool.false_eq_true, ↓reduceIte, Option.bind_some, Sum.elim_inl, Sum.elim_inr, ↓wq_f0b, ↓wq_f1b, ↓wq_f2b, ↓wq_r0b, ↓wq_r1b, ↓Option.bind_some]
    obtain ⟨q, hq⟩ : ∃ q, xf_rf_find (A 66) (A 67) N (Int32.ofNat 0) y = some q := ⟨_, e2'⟩
    have h2 : xf_rf_alike (A 73) (A 68) (A 66) (A 69) (A 67) (A 70) (A 71) (A 72) N (A 74) (A 75) (S 57 0) (L 76) x y = some (Int32.ofNat 0, A 74, A 75, Int32.ofNat 1, L 76) := by
      simp (disch := omega) only [↓xf_rf_alike_s, ↓xf_rf_alike_32_s, ↓xf_rf_alike_37_s, e2, ↓wq_b e2, ↓wq_b hq, wq_or, wq_ltT, wq_ltF, wq_inT, wq_clamp, wq_eqF, wq_eqm, wq_meq, wq_add, wq_mul, wq_subT, eq_self, Bool.false_eq_true, ↓reduceIte, Option.bind_some, Sum.elim_inl, Sum.elim_inr, ↓wq_f0b, ↓wq_f1b, ↓wq_f2b, ↓wq_r0b, ↓wq_r1b, ↓Option.bind_some]
    exact ⟨_, _, h1, h2, ⟨rfl, fun h => absurd h wq_ne1, fun h => absurd h wq_ne1⟩, stay _ _ _ _ _⟩
  | some p =>
    rw [hf] at e1 e2
    obtain ⟨hp, hxp⟩ := wq_fx_some hf
    obtain ⟨r1, _⟩ := wi_row hm p hp
    cases hf' : wq_fx a n y with
    | none =>
      rw [hf'] at e1' e2'
      have h1 : xf_la_alike (A 45) (A 23) (S 15 1) (L 17) (A 16) (A 19) (A 18) (A 20) (A 22) (S 15 2) (A 21) 1000 1 N (S 42 5) (A 47) (L 77) x y = some (Int32.ofNat 1, S 42 5, A 47, L 77) := by
        simp (disch := omega) only [↓xf_la_alike_16_s, ↓xf_la_alike_s, ↓xf_xt_alike_49_s, ↓xf_xt_alike_s, ↓xf_xt_rowOrRefuse_19_s, ↓xf_xt_rowOrRefuse_s, e1, ↓wq_b e1, e1', ↓wq_b e1', wq_or, wq_ltT, wq_ltF, wq_inT, wq_clamp, wq_eqF, wq_eqm, wq_meq, wq_add, wq_mul, wq_subT, eq_self, Bool.false_eq_true, ↓reduceIte, Option.bind_some, Sum.elim_inl, Sum.elim_inr, ↓wq_f0b, ↓wq_f1b, ↓wq_f2b, ↓wq_r0b, ↓wq_r1b, ↓Option.bind_some]
      have h2 : xf_rf_alike (A 73) (A 68) (A 66) (A 69) (A 67) (A 70) (A 71) (A 72) N (A 74) (A 75) (S 57 0) (L 76) x y = some (Int32.ofNat 0, A 74, A 75, Int32.ofNat 1, L 76) := by
        simp (disch := omega) only [↓xf_rf_alike_s, ↓xf_rf_alike_32_s, ↓xf_rf_alike_37_s, e2, ↓wq_b e2, e2', ↓wq_b e2', wq_or, wq_ltT, wq_ltF, wq_inT, wq_clamp, wq_eqF, wq_eqm, wq_meq, wq_add, wq_mul, wq_subT, eq_self, Bool.false_eq_true, ↓reduceIte, Option.bind_some, Sum.elim_inl, Sum.elim_inr, ↓wq_f0b, ↓wq_f1b, ↓wq_f2b, ↓wq_r0b, ↓wq_r1b, ↓Option.bind_some]
      exact ⟨_, _, h1, h2, ⟨rfl, fun h => absurd h wq_ne1, fun h => absurd h wq_ne1⟩, stay _ _ _ _ _⟩
    | some q =>
      rw [hf'] at e1' e2'
      obtain ⟨hq, hyq⟩ := wq_fx_some hf'
      obtain ⟨r1', _⟩ := wi_row hm q hq
      have hap := (wi_a hm p hp).2
      have haq := (wi_a hm q hq).2
      obtain ⟨hV, hM, hG, hL⟩ := id hm
      have hM2 := hM
      rw [hn2] at hM2
      obtain ⟨h, gr', leads', H, hl, hgr⟩ := wm_group hM2 hV hG.2.2 hN hL
      obtain ⟨D', lk', ways', f1, f2⟩ := wq_findLikes hV hn3 hN hG.2.2 H (A 74) (A 75) (L 76)
      have hhp := wi_h_le H hp
      have hhq := wi_h_le H hq
      have ahp := (wi_a hm (h p) (by omega)).2
      have ahq := (wi_a hm (h q) (by omega)).2
      have l1 := wm_le (a := a) (leads := leads') (r := p) (by omega)
      have l2 := wm_le (a := a) (leads := leads') (r := q) (by omega)
      rw [hl p hp] at l1
      rw [hl q hq] at l2
      have inv : ∀ (d lk : Nat → Int32) (w f : Nat → Int64) (v : Int32), wi_I (xy_a (xy_a (xy_a A 74 d) 75 lk) 47 leads') (xy_l (xy_l L 76 w) 77 f) (xy_s (xy_s S 57 0 v) 42 5 gr') := fun _ _ _ _ _ =>
        ⟨hT, hK, ⟨n, R, u, o, a, z, m, t, c, s, hV, hM, hG, Or.inr ⟨h, H, hl⟩⟩, hkept⟩
      rw [← hxp, hn2] at e1
      rw [← hyq, hn2] at e1'
      rw [← hxp] at e2
      rw [← hyq] at e2'
      rw [← hxp, ← hyq, hn2]
      by_cases hx : h p = h q
      · have h1 : xf_la_alike (A 45) (A 23) (Int32.ofNat n) (L 17) (A 16) (A 19) (A 18) (A 20) (A 22) (S 15 2) (A 21) 1000 1 N (S 42 5) (A 47) (L 77) (Int32.ofNat (a p)) (Int32.ofNat (a q)) = some (Int32.ofNat 0, gr', leads', vp_updL (L 77) 0 1) := by
          simp (disch := omega) only [↓xf_la_alike_16_s, ↓xf_la_alike_s, ↓xf_xt_alike_49_s, ↓xf_xt_alike_s, ↓xf_xt_rowOrRefuse_19_s, ↓xf_xt_rowOrRefuse_s, e1, ↓wq_b e1, e1', ↓wq_b e1', wq_or, wq_ltT, wq_ltF, wq_inT, wq_clamp, wq_eqF, wq_eqm, wq_meq, wq_add, wq_mul, wq_subT, eq_self, Bool.false_eq_true, ↓reduceIte, Option.bind_some, Sum.elim_inl, Sum.elim_inr, ↓wq_f0b, ↓wq_f1b, ↓wq_f2b, ↓wq_r0b, ↓wq_r1b, ↓Option.bind_some, ↓wq_b hgr, ↓wq_b l1, ↓wq_b l2, hx, ef1]
        have h2 : xf_rf_alike (A 73) (A 68) (A 66) (A 69) (A 67) (A 70) (A 71) (A 72) N (A 74) (A 75) (S 57 0) (L 76) (Int32.ofNat (a p)) (Int32.ofNat (a q)) = some (Int32.ofNat 1, D', lk', Int32.ofNat 0, ways') := by
          simp (disch := omega) only [↓xf_rf_alike_s, ↓xf_rf_alike_32_s, ↓xf_rf_alike_37_s, ↓xf_rf_alike_71_s, e2, ↓wq_b e2, e2', ↓wq_b e2', wq_or, wq_ltT, wq_ltF, wq_inT, wq_clamp, wq_eqF, wq_eqm, wq_meq, wq_add, wq_mul, wq_subT, eq_self, Bool.false_eq_true, ↓reduceIte, Option.bind_some, Sum.elim_inl, Sum.elim_inr, ↓wq_f0b, ↓wq_f1b, ↓wq_f2b, ↓wq_r0b, ↓wq_r1b, ↓Option.bind_some, ↓wq_b f1, f2 p hp, f2 q hq, hx, ef1]
        exact ⟨_, _, h1, h2, ⟨rfl, fun _ h => absurd h wq_ne1, fun _ _ => wp_cmp _⟩, inv _ _ _ _ _⟩
      · have hx2 : a (h p) ≠ a (h q) := fun e => hx (wm_inja hV (by omega) (by omega) e)
        have h1 : xf_la_alike (A 45) (A 23) (Int32.ofNat n) (L 17) (A 16) (A 19) (A 18) (A 20) (A 22) (S 15 2) (A 21) 1000 1 N (S 42 5) (A 47) (L 77) (Int32.ofNat (a p)) (Int32.ofNat (a q)) = some (Int32.ofNat 0, gr', leads', vp_updL (L 77) 0 0) := by
          simp (disch := omega) only [↓xf_la_alike_16_s, ↓xf_la_alike_s, ↓xf_xt_alike_49_s, ↓xf_xt_alike_s, ↓xf_xt_rowOrRefuse_19_s, ↓xf_xt_rowOrRefuse_s, e1, ↓wq_b e1, e1', ↓wq_b e1', wq_or, wq_ltT, wq_ltF, wq_inT, wq_clamp, wq_eqF, wq_eqm, wq_meq, wq_add, wq_mul, wq_subT, eq_self, Bool.false_eq_true, ↓reduceIte, Option.bind_some, Sum.elim_inl, Sum.elim_inr, ↓wq_f0b, ↓wq_f1b, ↓wq_f2b, ↓wq_r0b, ↓wq_r1b, ↓Option.bind_some, ↓wq_b hgr, ↓wq_b l1, ↓wq_b l2, ef0]
        have h2 : xf_rf_alike (A 73) (A 68) (A 66) (A 69) (A 67) (A 70) (A 71) (A 72) N (A 74) (A 75) (S 57 0) (L 76) (Int32.ofNat (a p)) (Int32.ofNat (a q)) = some (Int32.ofNat 0, D', lk', Int32.ofNat 0, ways') := by
          simp (disch := omega) only [↓xf_rf_alike_s, ↓xf_rf_alike_32_s, ↓xf_rf_alike_37_s, ↓xf_rf_alike_71_s, e2, ↓wq_b e2, e2', ↓wq_b e2', wq_or, wq_ltT, wq_ltF, wq_inT, wq_clamp, wq_eqF, wq_eqm, wq_meq, wq_add, wq_mul, wq_subT, eq_self, Bool.false_eq_true, ↓reduceIte, Option.bind_some, Sum.elim_inl, Sum.elim_inr, ↓wq_f0b, ↓wq_f1b, ↓wq_f2b, ↓wq_r0b, ↓wq_r1b, ↓Option.bind_some, ↓wq_b f1, f2 p hp, f2 q hq, ef0]
        exact ⟨_, _, h1, h2, ⟨rfl, fun _ _ => wp_cmp _, fun _ h => absurd rfl h⟩, inv _ _ _ _ _⟩
