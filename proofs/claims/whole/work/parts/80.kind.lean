/-! SCHEMA: one kind. -/
/-- the kinds that were read, beside the reference's -/
def wk_R (K : Nat) (y w : Nat → Nat) (total : Int32) (name : Nat → Int64) (size sort may kletters knames kparts ksorts kmay : Nat → Int32) : Prop :=
  wi_K K y w total name size sort may (fun _ => Int32.ofNat K) (fun i => kletters (12 + i)) (fun j => knames (96 + j)) (fun i => kparts (12 + i)) (fun j => ksorts (96 + j)) (fun j => kmay (96 + j))
/-- the kinds that stand are not touched -/
def wk_N (kletters kmay knames kparts ksorts kinds kletters' kmay' knames' kparts' ksorts' kinds' : Nat → Int32) : Prop :=
  (∀ x, x < 12 → kletters' x = kletters x ∧ kparts' x = kparts x) ∧ (∀ x, x < 96 → kmay' x = kmay x ∧ knames' x = knames x ∧ ksorts' x = ksorts x) ∧ kinds' 0 = kinds 0
theorem wk_pack0 {f : Nat → Int32} {c m : Nat} (hm : m ≤ 8) (h1 : 1 ≤ m) (h : ∀ i, i < m → ∃ k, 65 ≤ k ∧ k ≤ 90 ∧ f (c + i) = Int32.ofNat k) : ¬ wq_pack f c m = 0 := by
  intro e
  have := (wq_pack_eq (f := f) (f' := f) (b := c) (b' := c) (m := m) (m' := 0) hm (by omega) h (fun i hi => absurd hi (by omega))).mp e
  omega
section
variable {E T : Nat} {ch : Nat → Nat} {signs text : Nat → Int32} {b st : Nat → Nat} {o : Nat → Bool} {begin_ end_ first digits : Nat → Int32}
theorem wk_kind (hX : wt_X E ch signs text) (hK : wt_Tok ch E true T b st o begin_ end_ first digits) {N : Nat} (hN : 1300 ≤ N) {K : Nat} (hK12 : K ≤ 12) {y w : Nat → Nat} {name : Nat → Int64} {size sort may kletters knames kparts ksorts kmay kinds : Nat → Int32} {from_ : Int32} {i : Nat} (hi : i < T) (hoi : o i = false) (hR : wk_R K y w (Int32.ofNat K) name size sort may kletters knames kparts ksorts kmay) (hk1 : kinds 1 = Int32.ofNat K) :
    ∃ (name' : Nat → Int64) (size' sort' may' kletters' knames' kparts' ksorts' kmay' kinds' : Nat → Int32) (total' at' from' : Int32) (i' : Nat), i' ≤ T ∧ wk_N kletters kmay knames kparts ksorts kinds kletters' kmay' knames' kparts' ksorts' kinds' ∧
      ((K < 12 ∧ i < i' ∧ o i' = false ∧ (∃ p', at' = Int32.ofNat p' ∧ st i' ≤ p' ∧ p' ≤ b i') ∧ (∃ y' w', wk_R (K + 1) y' w' (Int32.ofNat (K + 1)) name' size' sort' may' kletters' knames' kparts' ksorts' kmay') ∧ kinds' 1 = Int32.ofNat (K + 1) ∧ total' = Int32.ofNat (K + 1) ∧
          xf_sr_readKind begin_ end_ first (Int32.ofNat E) signs (Int32.ofNat T) N may name size sort (Int32.ofNat K) (Int32.ofNat i) = some (Int32.ofNat 1, may', name', size', sort', total', Int32.ofNat i') ∧
          xf_rf_kind (Int32.ofNat E) text N (Int32.ofNat (b i)) (-1) from_ kletters kmay knames kparts ksorts kinds = some ((), at', -1, from', kletters', kmay', knames', kparts', ksorts', kinds')) ∨
       (xf_sr_readKind begin_ end_ first (Int32.ofNat E) signs (Int32.ofNat T) N may name size sort (Int32.ofNat K) (Int32.ofNat i) = some (Int32.ofNat 0, may', name', size', sort', total', Int32.ofNat i') ∧
          xf_rf_kind (Int32.ofNat E) text N (Int32.ofNat (b i)) (-1) from_ kletters kmay knames kparts ksorts kinds = some ((), at', Int32.ofNat (b i'), from', kletters', kmay', knames', kparts', ksorts', kinds'))) := by
  have hE := hX.1
  have hTE := hK.2.1
  have m1 : ((-1 : Int32) = -1) = True := eq_true rfl
  have hb := wt_b_le hK (i := i) (by omega)
  have hst := wt_st_le hK (i := i) (by omega)
  have nm := wt_cname hX hK hN (i := i) (by omega) hoi
  have self : wk_N kletters kmay knames kparts ksorts kinds kletters kmay knames kparts ksorts kinds := ⟨fun _ _ => ⟨rfl, rfl⟩, fun _ _ => ⟨rfl, rfl, rfl⟩, rfl⟩
  by_cases hKe : K = 12
  · subst hKe
    refine ⟨name, size, sort, may, kletters, knames, kparts, ksorts, kmay, kinds, Int32.ofNat 12, Int32.ofNat (b i), from_, i, by omega, self, Or.inr ⟨?_, ?_⟩⟩
    · rcases nm with ⟨_, _, _, _, _, nm⟩ | ⟨_, nm⟩
      · simp (disch := omega) only [↓xf_sr_readKind_s, ↓xf_sr_readKind_38_s, wq_ltT, wq_ltF, wq_inT, wq_clamp, wq_eqF, wq_eqm, wq_meq, wq_add, wq_mul, wq_subT, eq_self, Bool.false_eq_true, ↓reduceIte, Option.bind_some, Sum.elim_inl, Sum.elim_inr, ↓wq_f0b, ↓wq_f1b, ↓wq_f2b, ↓wq_r0b, ↓wq_r1b, ↓Option.bind_some, ↓wq_b nm, ite_self]
      · simp (disch := omega) only [↓xf_sr_readKind_s, ↓xf_sr_readKind_38_s, wq_ltT, wq_ltF, wq_inT, wq_clamp, wq_eqF, wq_eqm, wq_meq, wq_add, wq_mul, wq_subT, eq_self, Bool.false_eq_true, ↓reduceIte, Option.bind_some, Sum.elim_inl, Sum.elim_inr, ↓wq_f0b, ↓wq_f1b, ↓wq_f2b, ↓wq_r0b, ↓wq_r1b, ↓Option.bind_some, ↓wq_b nm, ite_self]
    · simp (disch := omega) only [↓xf_rf_kind_s, wq_ltT, wq_ltF, wq_inT, wq_clamp, wq_eqF, wq_eqm, wq_meq, wq_add, wq_mul, wq_subT, eq_self, Bool.false_eq_true, ↓reduceIte, Option.bind_some, Sum.elim_inl, Sum.elim_inr, ↓wq_f0b, ↓wq_f1b, ↓wq_f2b, ↓wq_r0b, ↓wq_r1b, ↓Option.bind_some, hk1, ↓xf_rf_wrongAt_13_s, ↓xf_rf_wrongAt_s, m1]
  · have hKl : K < 12 := by omega
    obtain ⟨kn2, n1, n2, n3⟩ := wt_rname hX hK (N := N) (n1 := 192) (to := 8 * (12 + K)) hN (by omega) (by omega) (i := i) (p := b i) (by omega) hst (Nat.le_refl _) knames from_
    obtain ⟨en1, en2, en3, _⟩ := wt_end_le (P := wt_lt) (ch := ch) (E := E) (E - b i) (b i) (by omega)
    obtain ⟨R1, R2, R3, R4⟩ := id hR
    have K12 : 12 + K < 24 := by omega
    -- with a fault it goes to its end
    have tail : ∀ (f at_ fr : Int32) (kl km kn kp ks kd : Nat → Int32), ¬ f = -1 → ((xf_rf_sign (Int32.ofNat E) text N at_ f (Int32.ofNat 61)).bind fun q => xf_rf_kind_126 (Int32.ofNat E) text N N q.2.1 q.2.2 fr kl km kn kp ks kd (Int32.ofNat (12 + K)) (Int32.ofNat 0) (Int32.ofNat 1) (Int32.ofNat 1)) = some ((), at_, f, fr, kl, km, kn, upd kp (12 + K) (Int32.ofNat 0), ks, upd kd 1 (kd 1 + Int32.ofNat 1)) := by
      intro f at_ fr kl km kn kp ks kd hf
      rw [wt_rsign2 hf, Option.bind_some]
      obtain ⟨N', rfl⟩ : ∃ N', N = N' + 1 := ⟨N - 1, by omega⟩
      simp (disch := omega) only [↓xf_rf_kind_126_s, ↓xf_rf_kind_265_s, wq_ltT, wq_ltF, wq_inT, wq_clamp, wq_eqF, wq_eqm, wq_meq, wq_add, wq_mul, wq_subT, eq_self, Bool.false_eq_true, ↓reduceIte, Option.bind_some, Sum.elim_inl, Sum.elim_inr, ↓wq_f0b, ↓wq_f1b, ↓wq_f2b, ↓wq_r0b, ↓wq_r1b, ↓Option.bind_some, hf]
    have fne : ∀ x, x < 2147483648 → ¬ Int32.ofNat x = -1 := fun x hx hh => (wq_eqm hx).mp hh
    -- the loop over the kinds that are there
    have dup : ∀ l q M (f : Int32) (at_ : Int32), q + l = K → l < M → (f = -1 ∨ ¬ f = -1) →
        ∃ f', ((∀ q', q ≤ q' → q' < K → ¬ (y q' = wt_end wt_lt ch E (b i) - b i ∧ ∀ x, x < y q' → knames (96 + (8 * q' + x)) = kn2 (96 + (8 * K + x)))) → f' = f) ∧ ((∃ q', q ≤ q' ∧ q' < K ∧ y q' = wt_end wt_lt ch E (b i) - b i ∧ ∀ x, x < y q' → knames (96 + (8 * q' + x)) = kn2 (96 + (8 * K + x))) → f = -1 → f' = Int32.ofNat (b i)) ∧ (¬ f = -1 → f' = f) ∧
        xf_rf_kind_51 (Int32.ofNat E) text N M at_ f (Int32.ofNat (b i)) (upd kletters (12 + K) (Int32.ofNat (wt_end wt_lt ch E (b i) - b i))) kmay kn2 kparts ksorts kinds (Int32.ofNat (12 + K)) (Int32.ofNat (12 + q)) = ((xf_rf_sign (Int32.ofNat E) text N at_ f' (Int32.ofNat 61)).bind fun q => xf_rf_kind_126 (Int32.ofNat E) text N N q.2.1 q.2.2 (Int32.ofNat (b i)) (upd kletters (12 + K) (Int32.ofNat (wt_end wt_lt ch E (b i) - b i))) kmay kn2 kparts ksorts kinds (Int32.ofNat (12 + K)) (Int32.ofNat 0) (Int32.ofNat 1) (Int32.ofNat 1)) := by
      intro l
      induction l with
      | zero =>
        intro q M f at_ hq hM _
        obtain ⟨M', rfl⟩ : ∃ M', M = M' + 1 := ⟨M - 1, by omega⟩
        refine ⟨f, fun _ => rfl, fun ⟨q', h1, h2, _⟩ => by omega, fun _ => rfl, ?_⟩
        rw [xf_rf_kind_51_s]
        simp (disch := omega) only [wq_ltF, ↓reduceIte]
      | succ l ih =>
        intro q M f at_ hq hM hf
        obtain ⟨M', rfl⟩ : ∃ M', M = M' + 1 := ⟨M - 1, by omega⟩
        obtain ⟨r1, r2, r3, _, r5⟩ := R2 q (by omega)
        have kl : upd kletters (12 + K) (Int32.ofNat (wt_end wt_lt ch E (b i) - b i)) (12 + q) = Int32.ofNat (y q) := by
          rw [wq_upd2 (by omega)]
          exact r1
        have kl2 : upd kletters (12 + K) (Int32.ofNat (wt_end wt_lt ch E (b i) - b i)) (12 + K) = Int32.ofNat (wt_end wt_lt ch E (b i) - b i) := wq_upd1
        have kq : ∀ x, x < 8 → kn2 (96 + (8 * q + x)) = knames (96 + (8 * q + x)) := fun x hx => n1 _ (Or.inl (by omega))
        by_cases hy : y q = wt_end wt_lt ch E (b i) - b i
        · by_cases hall : ∀ x, x < y q → knames (96 + (8 * q + x)) = kn2 (96 + (8 * K + x))
          · have sm := wq_same1 (p1 := kn2) (p3 := kn2) (n1 := 192) (n3 := 192) (N := N) (d := 8 * (12 + q)) (e := 8 * (12 + K)) (l := y q) (by omega) (by omega) (by omega) (by omega) (by omega) (fun x hx => by
              have := hall x hx
              rw [← kq x (by omega)] at this
              rw [show 8 * (12 + q) + x = 96 + (8 * q + x) by omega, show 8 * (12 + K) + x = 96 + (8 * K + x) by omega]
              exact this)
            obtain ⟨f', i1, i2, i3, i4⟩ := ih (q + 1) M' (if f = -1 then Int32.ofNat (b i) else f) at_ (by omega) (by omega) (Classical.em _)
            refine ⟨f', fun hno => absurd ⟨hy, hall⟩ (hno q (Nat.le_refl q) (by omega)), fun _ hf1 => ?_, fun hf1 => ?_, ?_⟩
            · rw [if_pos hf1] at i3
              exact i3 (fne _ (by omega))
            · rw [if_neg hf1] at i3
              exact i3 hf1
            · rw [← i4, xf_rf_kind_51_s]
              rw [hy] at sm kl
              by_cases hf1 : f = -1
              · rw [if_pos hf1, hf1]
                simp (disch := omega) only [↓xf_rf_kind_107_s, wq_ltT, wq_ltF, wq_inT, wq_clamp, wq_eqF, wq_eqm, wq_meq, wq_add, wq_mul, wq_subT, eq_self, Bool.false_eq_true, ↓reduceIte, Option.bind_some, Sum.elim_inl, Sum.elim_inr, ↓wq_f0b, ↓wq_f1b, ↓wq_f2b, ↓wq_r0b, ↓wq_r1b, ↓Option.bind_some, kl, kl2, ↓wq_b sm, ↓xf_rf_wrongAt_13_s, ↓xf_rf_wrongAt_s, m1, Nat.add_assoc]
              · rw [if_neg hf1]
                simp (disch := omega) only [↓xf_rf_kind_107_s, wq_ltT, wq_ltF, wq_inT, wq_clamp, wq_eqF, wq_eqm, wq_meq, wq_add, wq_mul, wq_subT, eq_self, Bool.false_eq_true, ↓reduceIte, Option.bind_some, Sum.elim_inl, Sum.elim_inr, ↓wq_f0b, ↓wq_f1b, ↓wq_f2b, ↓wq_r0b, ↓wq_r1b, ↓Option.bind_some, kl, kl2, ↓wq_b sm, ↓xf_rf_wrongAt_13_s, ↓xf_rf_wrongAt_s, hf1, Nat.add_assoc]
          · have sm := wq_same2 (p1 := kn2) (p3 := kn2) (n1 := 192) (n3 := 192) (N := N) (d := 8 * (12 + q)) (e := 8 * (12 + K)) (l := y q) (by omega) (by omega) (by omega) (by omega) (by omega) (fun hh => hall (fun x hx => by
              have := hh x hx
              rw [show 8 * (12 + q) + x = 96 + (8 * q + x) by omega, show 8 * (12 + K) + x = 96 + (8 * K + x) by omega, kq x (by omega)] at this
              exact this))
            obtain ⟨f', i1, i2, i3, i4⟩ := ih (q + 1) M' f at_ (by omega) (by omega) hf
            refine ⟨f', fun hno => i1 (fun q' h1 h2 => hno q' (by omega) h2), fun ⟨q', h1, h2, h3⟩ => i2 ⟨q', ?_, h2, h3⟩, i3, ?_⟩
            · by_cases e : q' = q
              · subst e
                exact absurd h3.2 hall
              · omega
            · rw [← i4, xf_rf_kind_51_s]
              rw [hy] at sm kl
              simp (disch := omega) only [↓xf_rf_kind_107_s, wq_ltT, wq_ltF, wq_inT, wq_clamp, wq_eqF, wq_eqm, wq_meq, wq_add, wq_mul, wq_subT, eq_self, Bool.false_eq_true, ↓reduceIte, Option.bind_some, Sum.elim_inl, Sum.elim_inr, ↓wq_f0b, ↓wq_f1b, ↓wq_f2b, ↓wq_r0b, ↓wq_r1b, ↓Option.bind_some, kl, kl2, ↓wq_b sm, Nat.add_assoc]
        · obtain ⟨f', i1, i2, i3, i4⟩ := ih (q + 1) M' f at_ (by omega) (by omega) hf
          refine ⟨f', fun hno => i1 (fun q' h1 h2 => hno q' (by omega) h2), fun ⟨q', h1, h2, h3⟩ => i2 ⟨q', ?_, h2, h3⟩, i3, ?_⟩
          · by_cases e : q' = q
            · subst e
              exact absurd h3.1 hy
            · omega
          · rw [← i4, xf_rf_kind_51_s]
            simp (disch := omega) only [↓xf_rf_kind_107_s, wq_ltT, wq_ltF, wq_inT, wq_clamp, wq_eqF, wq_eqm, wq_meq, wq_add, wq_mul, wq_subT, eq_self, Bool.false_eq_true, ↓reduceIte, Option.bind_some, Sum.elim_inl, Sum.elim_inr, ↓wq_f0b, ↓wq_f1b, ↓wq_f2b, ↓wq_r0b, ↓wq_r1b, ↓Option.bind_some, kl, kl2, Nat.add_assoc]
    -- what the reference has after the name
    have rk : ∀ (f : Int32), (if wt_end wt_lt ch E (b i) = b i ∨ 8 < wt_end wt_lt ch E (b i) - b i then Int32.ofNat (b i) else -1) = f → xf_rf_kind (Int32.ofNat E) text N (Int32.ofNat (b i)) (-1) from_ kletters kmay knames kparts ksorts kinds = xf_rf_kind_51 (Int32.ofNat E) text N N (Int32.ofNat (wt_end wt_lt ch E (b i))) f (Int32.ofNat (b i)) (upd kletters (12 + K) (Int32.ofNat (wt_end wt_lt ch E (b i) - b i))) kmay kn2 kparts ksorts kinds (Int32.ofNat (12 + K)) (Int32.ofNat (12 + 0)) := by
      intro f hf
      rw [hf] at n3
      simp (disch := omega) only [↓xf_rf_kind_s, wq_ltT, wq_ltF, wq_inT, wq_clamp, wq_eqF, wq_eqm, wq_meq, wq_add, wq_mul, wq_subT, eq_self, Bool.false_eq_true, ↓reduceIte, Option.bind_some, Sum.elim_inl, Sum.elim_inr, ↓wq_f0b, ↓wq_f1b, ↓wq_f2b, ↓wq_r0b, ↓wq_r1b, ↓Option.bind_some, hk1, ↓wq_b n3]
    have N1 : ∀ v, wk_N kletters kmay knames kparts ksorts kinds (upd kletters (12 + K) (Int32.ofNat (wt_end wt_lt ch E (b i) - b i))) kmay kn2 (upd kparts (12 + K) v) ksorts (upd kinds 1 (kinds 1 + Int32.ofNat 1)) := fun v =>
      ⟨fun x hx => ⟨wq_upd2 (by omega), wq_upd2 (by omega)⟩, fun x hx => ⟨rfl, n1 x (Or.inl (by omega)), rfl⟩, wq_upd2 (by omega)⟩
    rcases nm with ⟨_, nl, ne, nlt, n8, nm⟩ | ⟨nbad, nm⟩
    · rw [ne] at en1 en2 en3 n2 n3 dup rk N1
      have good : ¬ (st (i + 1) = b i ∨ 8 < st (i + 1) - b i) := by omega
      rw [if_neg good] at n3 rk
      have lets : ∀ x, x < st (i + 1) - b i → ∃ k, 65 ≤ k ∧ k ≤ 90 ∧ signs (b i + x) = Int32.ofNat k := by
        intro x hx
        have := wt_lt_iff.mp (en3 (b i + x) (by omega) (by omega))
        exact ⟨_, this.1, this.2, (hX.2 (b i + x) (by omega)).1⟩
      have knl : ∀ x, x < st (i + 1) - b i → kn2 (96 + (8 * K + x)) = signs (b i + x) := by
        intro x hx
        have := n2 x (by omega) (by omega)
        rw [show 8 * (12 + K) + x = 96 + (8 * K + x) by omega] at this
        rw [this, (hX.2 (b i + x) (by omega)).1]
      have nz : ¬ wq_pack signs (b i) (st (i + 1) - b i) = 0 := wk_pack0 n8 (by omega) lets
      have fd := wq_kdfind (name := name) (N := N) hK12 (by omega) (wq_pack signs (b i) (st (i + 1) - b i))
      -- a kind of this name
      have match_ : ∀ q, q < K → (name q = wq_pack signs (b i) (st (i + 1) - b i) ↔ (y q = st (i + 1) - b i ∧ ∀ x, x < y q → knames (96 + (8 * q + x)) = kn2 (96 + (8 * K + x)))) := by
        intro q hq
        obtain ⟨_, _, r3, r4, r5⟩ := R2 q hq
        rw [r4, wq_pack_eq r3 n8 r5 lets]
        constructor
        · rintro ⟨a1, a2⟩
          exact ⟨a1, fun x hx => by rw [knl x (by omega)]; exact a2 x hx⟩
        · rintro ⟨a1, a2⟩
          exact ⟨a1, fun x hx => by rw [← knl x (by omega)]; exact a2 x hx⟩
      obtain ⟨f', d1, d2, _, d4⟩ := dup K 0 N (-1) (Int32.ofNat (st (i + 1))) (by omega) (by omega) (Or.inl rfl)
      cases hfd : wq_lst (fun i_1 => decide (name i_1 = wq_pack signs (b i) (st (i + 1) - b i))) K 0 with
      | some q =>
        rw [hfd] at fd
        obtain ⟨q1, q2, q3, _⟩ := wq_lst_some K 0 q hfd
        have q4 := (match_ q (by omega)).mp (of_decide_eq_true q3)
        have f1 := d2 ⟨q, by omega, by omega, q4⟩ rfl
        rw [f1] at d4
        refine ⟨name, size, sort, may, _, _, _, _, _, _, Int32.ofNat K, Int32.ofNat (st (i + 1)), Int32.ofNat (b i), i, by omega, N1 (Int32.ofNat 0), Or.inr ⟨?_, ?_⟩⟩
        · simp (disch := omega) only [↓xf_sr_readKind_s, ↓xf_sr_readKind_38_s, wq_ltT, wq_ltF, wq_inT, wq_clamp, wq_eqF, wq_eqm, wq_meq, wq_add, wq_mul, wq_subT, eq_self, Bool.false_eq_true, ↓reduceIte, Option.bind_some, Sum.elim_inl, Sum.elim_inr, ↓wq_f0b, ↓wq_f1b, ↓wq_f2b, ↓wq_r0b, ↓wq_r1b, ↓Option.bind_some, ↓wq_b nm, wq_cmp0, nz, ↓wq_b fd, wq_or]
        · rw [rk (-1) rfl, d4, tail _ _ _ _ _ _ _ _ _ (fne _ (by omega))]
      | none =>
        rw [hfd] at fd
        have f1 : f' = -1 := d1 (fun q' _ h2 h3 => by
          have := wq_lst_none K 0 hfd q' (by omega) (by omega)
          exact (of_decide_eq_false this) ((match_ q' h2).mpr h3))
        rw [f1] at d4
        have ak : xf_kd_addKind name size (Int32.ofNat K) (wq_pack signs (b i) (st (i + 1) - b i)) = some ((), vp_updL name K (wq_pack signs (b i) (st (i + 1) - b i)), upd size K (Int32.ofNat 0), Int32.ofNat (K + 1)) := by
          simp (disch := omega) only [↓xf_kd_addKind_39_s, ↓xf_kd_addKind_s, wq_ltT, wq_ltF, wq_inT, wq_clamp, wq_eqF, wq_eqm, wq_meq, wq_add, wq_mul, wq_subT, eq_self, Bool.false_eq_true, ↓reduceIte, Option.bind_some, Sum.elim_inl, Sum.elim_inr, ↓wq_f0b, ↓wq_f1b, ↓wq_f2b, ↓wq_r0b, ↓wq_r1b, ↓Option.bind_some]
        have te := wt_takes hX hK (i := i + 1) (c := 61) (by omega) (by omega) (by omega)
        have hst1 := wt_st_le hK (i := i + 1) (by omega)
        have rs := wt_rsign hX hK hN (i := i + 1) (p := st (i + 1)) (c := 61) (by omega) (Nat.le_refl _) hst1 (by omega)
        have hb1 := wt_b_le hK (i := i + 1) (by omega)
        by_cases h61 : wt_a ch T b (i + 1) = 61
        · rw [if_pos h61] at te rs
          have hiT1 : i + 1 < T := by
            apply Classical.byContradiction
            intro hc
            have e : wt_a ch T b (i + 1) = 0 := if_neg hc
            omega
          have ea1 : wt_a ch T b (i + 1) = ch (b (i + 1)) := if_pos hiT1
          have l1 : ¬ wt_lt (ch (b (i + 1))) = true := fun hh => by
            have := wt_lt_iff.mp hh
            omega
          have dd1 : ¬ wt_dg (ch (b (i + 1))) = true := fun hh => by
            have := wt_dg_iff.mp hh
            omega
          have nx1 : st (i + 2) = b (i + 1) + 1 := wt_single hK hiT1 l1 dd1 (by omega)
          have oi2 : o (i + 2) = true := by
            rw [(hK.1.2 (i + 1) hiT1).2.2.2.2.2.1]
            unfold wt_so
            rw [if_pos (by omega)]
          have hst2 := wt_st_le hK (i := i + 2) (by omega)
          have D0 : wk_D K 0 may (upd size K (Int32.ofNat 0)) sort kmay ksorts := ⟨wq_upd1, fun j hj => absurd hj (by omega)⟩
          have F0 : wk_F K may (upd size K (Int32.ofNat 0)) sort kmay ksorts may (upd size K (Int32.ofNat 0)) sort kmay ksorts := ⟨fun _ _ => rfl, fun _ _ => ⟨rfl, rfl⟩, fun _ _ => ⟨rfl, rfl⟩⟩
          obtain ⟨may', size', sort', kmay', ksorts', i', w', at', s1, ⟨F1, F2, F3⟩, s3⟩ := wk_sorts hX hK hN hKl (Int32.ofNat (b i)) (upd kletters (12 + K) (Int32.ofNat (st (i + 1) - b i))) kn2 kparts kinds (vp_updL name K (wq_pack signs (b i) (st (i + 1) - b i))) may (upd size K (Int32.ofNat 0)) sort kmay ksorts 8 0 (i + 2) (b (i + 1) + 1) 1 N N may (upd size K (Int32.ofNat 0)) sort kmay ksorts (by omega) (by omega) (by omega) (by omega) oi2 (Or.inr rfl) (fun _ => rfl) (fun hh => absurd hh (by omega)) (fun hh => absurd hh (by omega)) (by omega) (by omega) D0 F0
          have N2 : wk_N kletters kmay knames kparts ksorts kinds (upd kletters (12 + K) (Int32.ofNat (st (i + 1) - b i))) kmay' kn2 (upd kparts (12 + K) (Int32.ofNat w')) ksorts' (upd kinds 1 (kinds 1 + Int32.ofNat 1)) :=
            ⟨fun x hx => ⟨wq_upd2 (by omega), wq_upd2 (by omega)⟩, fun x hx => ⟨(F3 x (Or.inl (by omega))).1, n1 x (Or.inl (by omega)), (F3 x (Or.inl (by omega))).2⟩, wq_upd2 (by omega)⟩
          rcases s3 with ⟨p', a1, a2, ⟨a3, a3'⟩, a4, a5, a6, a7, a8, a9, a10⟩ | ⟨a9, a10⟩
          · refine ⟨vp_updL name K (wq_pack signs (b i) (st (i + 1) - b i)), size', sort', may', _, _, _, _, _, _, Int32.ofNat (K + 1), at', Int32.ofNat (b i), i', s1, N2, Or.inl ⟨hKl, by omega, a5, ⟨p', a8, a6, a7⟩, ⟨fun q => if q = K then st (i + 1) - b i else y q, fun q => if q = K then w' else w q, ?_⟩, by rw [wq_upd1, hk1, wq_add], rfl, ?_, ?_⟩⟩
            · refine ⟨⟨by omega, rfl, rfl⟩, fun q hq => ?_, fun q hq => ?_, fun q j hq hj => ?_⟩
              · by_cases e : q = K
                · subst e
                  show upd kletters (12 + q) _ (12 + q) = Int32.ofNat (if q = q then st (i + 1) - b i else y q) ∧ 1 ≤ (if q = q then st (i + 1) - b i else y q) ∧ (if q = q then st (i + 1) - b i else y q) ≤ 8 ∧ vp_updL name q _ q = wq_pack (fun j => kn2 (96 + j)) (8 * q) (if q = q then st (i + 1) - b i else y q) ∧ ∀ j, j < (if q = q then st (i + 1) - b i else y q) → ∃ k, 65 ≤ k ∧ k ≤ 90 ∧ kn2 (96 + (8 * q + j)) = Int32.ofNat k
                  rw [if_pos rfl, wq_upd1, wq_lupd1]
                  refine ⟨rfl, by omega, n8, wq_pack_congr2 _ (fun x hx => (knl x hx).symm), fun j hj => ?_⟩
                  rw [knl j hj]
                  exact lets j hj
                · obtain ⟨r1, r2, r3, r4, r5⟩ := R2 q (by omega)
                  show upd kletters (12 + K) _ (12 + q) = Int32.ofNat (if q = K then st (i + 1) - b i else y q) ∧ 1 ≤ (if q = K then st (i + 1) - b i else y q) ∧ (if q = K then st (i + 1) - b i else y q) ≤ 8 ∧ vp_updL name K _ q = wq_pack (fun j => kn2 (96 + j)) (8 * q) (if q = K then st (i + 1) - b i else y q) ∧ ∀ j, j < (if q = K then st (i + 1) - b i else y q) → ∃ k, 65 ≤ k ∧ k ≤ 90 ∧ kn2 (96 + (8 * q + j)) = Int32.ofNat k
                  rw [if_neg e, wq_upd2 (by omega), wq_lupd2 e]
                  refine ⟨r1, r2, r3, ?_, fun j hj => ?_⟩
                  · rw [r4]
                    exact wq_pack_congr2 _ (fun x hx => (n1 (96 + (8 * q + x)) (Or.inl (by omega))).symm)
                  · rw [n1 (96 + (8 * q + j)) (Or.inl (by omega))]
                    exact r5 j hj
              · by_cases e : q = K
                · subst e
                  show upd kparts (12 + q) _ (12 + q) = Int32.ofNat (if q = q then w' else w q) ∧ size' q = Int32.ofNat (if q = q then w' else w q) ∧ 1 ≤ (if q = q then w' else w q) ∧ (if q = q then w' else w q) ≤ 8
                  rw [if_pos rfl, wq_upd1]
                  exact ⟨rfl, a3, a1, a2⟩
                · obtain ⟨r1, r2, r3, r4⟩ := R3 q (by omega)
                  show upd kparts (12 + K) _ (12 + q) = Int32.ofNat (if q = K then w' else w q) ∧ size' q = Int32.ofNat (if q = K then w' else w q) ∧ 1 ≤ (if q = K then w' else w q) ∧ (if q = K then w' else w q) ≤ 8
                  rw [if_neg e, wq_upd2 (by omega), F1 q e, wq_upd2 e]
                  exact ⟨r1, r2, r3, r4⟩
              · by_cases e : q = K
                · subst e
                  have hj' : j < (if q = q then w' else w q) := hj
                  rw [if_pos rfl] at hj'
                  exact a3' j hj'
                · have hj' : j < (if q = K then w' else w q) := hj
                  rw [if_neg e] at hj'
                  have w8 := (R3 q (by omega)).2.2.2
                  obtain ⟨r1, r2, r3, r4⟩ := R4 q j (by omega) hj'
                  obtain ⟨u1, u2⟩ := F3 (96 + (8 * q + j)) (Or.inl (by omega))
                  obtain ⟨u3, u4⟩ := F2 (q * 8 + j) (Or.inl (by omega))
                  show (∃ k, k ≤ 5 ∧ ksorts' (96 + (8 * q + j)) = Int32.ofNat k) ∧ sort' (q * 8 + j) = ksorts' (96 + (8 * q + j)) ∧ may' (q * 8 + j) = kmay' (96 + (8 * q + j)) ∧ (kmay' (96 + (8 * q + j)) = Int32.ofNat 0 ∨ kmay' (96 + (8 * q + j)) = Int32.ofNat 1)
                  rw [u1, u2, u3, u4]
                  exact ⟨r1, r2, r3, r4⟩
            · simp (disch := omega) only [↓xf_sr_readKind_s, wq_ltT, wq_ltF, wq_inT, wq_clamp, wq_eqF, wq_eqm, wq_meq, wq_add, wq_mul, wq_subT, eq_self, Bool.false_eq_true, ↓reduceIte, Option.bind_some, Sum.elim_inl, Sum.elim_inr, ↓wq_f0b, ↓wq_f1b, ↓wq_f2b, ↓wq_r0b, ↓wq_r1b, ↓Option.bind_some, ↓wq_b nm, wq_cmp0, nz, ↓wq_b fd, wq_or, ↓xf_wd_step_s, ↓wq_b ak, ↓wq_b te, a9]
            · rw [rk (-1) rfl, d4, rs, Option.bind_some, a10]
          · refine ⟨vp_updL name K (wq_pack signs (b i) (st (i + 1) - b i)), size', sort', may', _, _, _, _, _, _, Int32.ofNat (K + 1), at', Int32.ofNat (b i), i', s1, N2, Or.inr ⟨?_, ?_⟩⟩
            · simp (disch := omega) only [↓xf_sr_readKind_s, wq_ltT, wq_ltF, wq_inT, wq_clamp, wq_eqF, wq_eqm, wq_meq, wq_add, wq_mul, wq_subT, eq_self, Bool.false_eq_true, ↓reduceIte, Option.bind_some, Sum.elim_inl, Sum.elim_inr, ↓wq_f0b, ↓wq_f1b, ↓wq_f2b, ↓wq_r0b, ↓wq_r1b, ↓Option.bind_some, ↓wq_b nm, wq_cmp0, nz, ↓wq_b fd, wq_or, ↓xf_wd_step_s, ↓wq_b ak, ↓wq_b te, a9]
            · rw [rk (-1) rfl, d4, rs, Option.bind_some, a10]
        · rw [if_neg h61] at te rs
          refine ⟨vp_updL name K (wq_pack signs (b i) (st (i + 1) - b i)), upd size K (Int32.ofNat 0), sort, may, _, _, _, _, _, _, Int32.ofNat (K + 1), Int32.ofNat (b (i + 1)), Int32.ofNat (b i), i + 1, by omega, N1 (Int32.ofNat 0), Or.inr ⟨?_, ?_⟩⟩
          · simp (disch := omega) only [↓xf_sr_readKind_s, wq_ltT, wq_ltF, wq_inT, wq_clamp, wq_eqF, wq_eqm, wq_meq, wq_add, wq_mul, wq_subT, eq_self, Bool.false_eq_true, ↓reduceIte, Option.bind_some, Sum.elim_inl, Sum.elim_inr, ↓wq_f0b, ↓wq_f1b, ↓wq_f2b, ↓wq_r0b, ↓wq_r1b, ↓Option.bind_some, ↓wq_b nm, wq_cmp0, nz, ↓wq_b fd, wq_or, ↓xf_wd_step_s, ↓wq_b ak, ↓wq_b te]
          · rw [rk (-1) rfl, d4, rs, Option.bind_some]
            obtain ⟨N', rfl⟩ : ∃ N', N = N' + 1 := ⟨N - 1, by omega⟩
            have hf := fne (b (i + 1)) (by omega)
            simp (disch := omega) only [↓xf_rf_kind_126_s, ↓xf_rf_kind_265_s, wq_ltT, wq_ltF, wq_inT, wq_clamp, wq_eqF, wq_eqm, wq_meq, wq_add, wq_mul, wq_subT, eq_self, Bool.false_eq_true, ↓reduceIte, Option.bind_some, Sum.elim_inl, Sum.elim_inr, ↓wq_f0b, ↓wq_f1b, ↓wq_f2b, ↓wq_r0b, ↓wq_r1b, ↓Option.bind_some, hf]
    · rw [if_pos nbad] at n3 rk
      obtain ⟨f', d1, d2, d3, d4⟩ := dup K 0 N (Int32.ofNat (b i)) (Int32.ofNat (wt_end wt_lt ch E (b i))) (by omega) (by omega) (Or.inr (fne _ (by omega)))
      rw [d3 (fne _ (by omega))] at d4
      refine ⟨name, size, sort, may, _, _, _, _, _, _, Int32.ofNat K, Int32.ofNat (wt_end wt_lt ch E (b i)), Int32.ofNat (b i), i, by omega, N1 (Int32.ofNat 0), Or.inr ⟨?_, ?_⟩⟩
      · have z0 : lg_cmp 0 0 = Int32.ofNat 0 := by decide
        simp (disch := omega) only [↓xf_sr_readKind_s, ↓xf_sr_readKind_38_s, wq_ltT, wq_ltF, wq_inT, wq_clamp, wq_eqF, wq_eqm, wq_meq, wq_add, wq_mul, wq_subT, eq_self, Bool.false_eq_true, ↓reduceIte, Option.bind_some, Sum.elim_inl, Sum.elim_inr, ↓wq_f0b, ↓wq_f1b, ↓wq_f2b, ↓wq_r0b, ↓wq_r1b, ↓Option.bind_some, ↓wq_b nm, z0]
      · rw [rk _ rfl, d4, tail _ _ _ _ _ _ _ _ _ (fne _ (by omega))]
end
