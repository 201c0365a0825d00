/-! WORDS: the class splits its text. -/
def wt_ds (ch : Nat → Nat) (E b : Nat) : Int32 := if wt_dg (ch b) = true then (if 9 < wt_end wt_dg ch E (b + 1) - b then -1 else Int32.ofNat (wt_dv ch (wt_end wt_dg ch E (b + 1) - b) b 0)) else -1
def wt_so (os o : Bool) (c : Nat) : Bool := if c = 61 then os else (o && !decide (c = 59))
def wt_fl (o : Bool) : Int32 := if o = true then Int32.ofNat 1 else Int32.ofNat 0
/-- the first T words -/
def wt_K (ch : Nat → Nat) (E : Nat) (os : Bool) (T : Nat) (b st : Nat → Nat) (o : Nat → Bool) (begin_ end_ first digits : Nat → Int32) : Prop :=
  (st 0 = 0 ∧ o 0 = false) ∧
  ∀ i, i < T → st i ≤ b i ∧ b i < E ∧ ch (b i) ≠ 32 ∧ (∀ j, st i ≤ j → j < b i → ch j = 32) ∧ st (i + 1) = (wt_e ch E (o i) (b i)).getD E ∧ o (i + 1) = wt_so os (o i) (ch (b i)) ∧ begin_ i = Int32.ofNat (b i) ∧ end_ i = wt_eo (wt_e ch E (o i) (b i)) ∧ first i = Int32.ofNat (ch (b i)) ∧ digits i = wt_ds ch E (b i)
/-- all words: the place behind the last is the end -/
def wt_Tok (ch : Nat → Nat) (E : Nat) (os : Bool) (T : Nat) (b st : Nat → Nat) (o : Nat → Bool) (begin_ end_ first digits : Nat → Int32) : Prop :=
  wt_K ch E os T b st o begin_ end_ first digits ∧ T ≤ E ∧ b T = E ∧ st T ≤ E ∧ ∀ j, st T ≤ j → j < E → ch j = 32
section
variable {E : Nat} {ch : Nat → Nat} {signs : Nat → Int32}
theorem wt_dsv (hE : E ≤ 1200) (hch : ∀ j, j < E → signs j = Int32.ofNat (ch j) ∧ 32 ≤ ch j ∧ ch j ≤ 126) {N : Nat} (hN : 1300 ≤ N) {p : Nat} (hp : p < E) (hd : wt_dg (ch p) = true) : xf_wd_digitsBetween (Int32.ofNat E) signs N (Int32.ofNat p) (Int32.ofNat (wt_end wt_dg ch E (p + 1))) = some (wt_ds ch E p) := by
  obtain ⟨e1, e2, e3, _⟩ := wt_end_le (P := wt_dg) (ch := ch) (E := E) (E - (p + 1)) (p + 1) (by omega)
  unfold wt_ds
  rw [if_pos hd]
  by_cases h9 : 9 < wt_end wt_dg ch E (p + 1) - p
  · rw [if_pos h9]
    simp (disch := omega) only [↓xf_wd_digitsBetween_s, wq_ltT, wq_ltF, wq_inT, wq_clamp, wq_eqF, wq_eqm, wq_meq, wq_add, wq_mul, wq_subT, eq_self, Bool.false_eq_true, ↓reduceIte, Option.bind_some, Sum.elim_inl, Sum.elim_inr, ↓wq_f0b, ↓wq_f1b, ↓wq_f2b, ↓wq_r0b, ↓wq_r1b, ↓Option.bind_some]
  · rw [if_neg h9]
    have key := wt_between hE hch (N := N) e2 (wt_end wt_dg ch E (p + 1) - p) p N 0 0 (by omega) (by omega) (by decide) (by omega) (fun i hi => by
      by_cases i0 : i = 0
      · rw [i0, Nat.add_zero]
        exact wt_dg_iff.mp hd
      · exact wt_dg_iff.mp (e3 (p + i) (by omega) (by omega)))
    simp (disch := omega) only [↓xf_wd_digitsBetween_s, wq_ltT, wq_ltF, wq_inT, wq_clamp, wq_eqF, wq_eqm, wq_meq, wq_add, wq_mul, wq_subT, eq_self, Bool.false_eq_true, ↓reduceIte, Option.bind_some, Sum.elim_inl, Sum.elim_inr, ↓wq_f0b, ↓wq_f1b, ↓wq_f2b, ↓wq_r0b, ↓wq_r1b, ↓Option.bind_some, key]
theorem wt_split (hE : E ≤ 1200) (hch : ∀ j, j < E → signs j = Int32.ofNat (ch j) ∧ 32 ≤ ch j ∧ ch j ≤ 126) {N : Nat} (hN : 1300 ≤ N) (os : Bool) (begin_ digits end_ first : Nat → Int32) (now total : Int32) :
    ∃ (T : Nat) (b st : Nat → Nat) (o : Nat → Bool) (begin' digits' end' first' : Nat → Int32), wt_Tok ch E os T b st o begin' end' first' digits' ∧ xf_wd_split (Int32.ofNat E) signs N begin_ digits end_ first now total (wt_fl os) = some ((), begin', digits', end', first', Int32.ofNat 0, Int32.ofNat T) := by
  rw [xf_wd_split_s]
  suffices H : ∀ k p i T M (b st : Nat → Nat) (o : Nat → Bool) (begin_ digits end_ first : Nat → Int32), E ≤ p + k → k < M → p ≤ E → i ≤ p → T ≤ p → wt_K ch E os T b st o begin_ end_ first digits → st T ≤ p → (∀ j, st T ≤ j → j < p → ch j = 32) →
      ∃ (T' : Nat) (b' st' : Nat → Nat) (o' : Nat → Bool) (begin' digits' end' first' : Nat → Int32), wt_Tok ch E os T' b' st' o' begin' end' first' digits' ∧ xf_wd_split_17 (Int32.ofNat E) signs N M begin_ digits end_ first (Int32.ofNat 0) (Int32.ofNat T) (wt_fl os) (Int32.ofNat p) (wt_fl (o T)) (Int32.ofNat i) = some ((), begin', digits', end', first', Int32.ofNat 0, Int32.ofNat T') by
    exact H E 0 0 0 N (fun _ => 0) (fun _ => 0) (fun _ => false) begin_ digits end_ first (by omega) (by omega) (by omega) (by omega) (by omega) ⟨⟨rfl, rfl⟩, fun i hi => absurd hi (by omega)⟩ (by omega) (fun j h1 h2 => absurd h2 (by omega))
  intro k
  induction k with
  | zero =>
    intro p i T M b st o begin_ digits end_ first hk hM hp hi hT hK hst hbl
    obtain ⟨M', rfl⟩ : ∃ M', M = M' + 1 := ⟨M - 1, by omega⟩
    have e : p = E := by omega
    subst e
    obtain ⟨k1, k2⟩ := hK
    refine ⟨T, fun j => if j = T then p else b j, st, o, begin_, digits, end_, first, ⟨⟨k1, fun i hi => ?_⟩, hT, if_pos rfl, hst, hbl⟩, ?_⟩
    · have eb : (fun j => if j = T then p else b j) i = b i := if_neg (by omega)
      rw [eb]
      exact k2 i hi
    · by_cases h12 : i < 1200
      · simp (disch := omega) only [↓xf_wd_split_17_s, ↓xf_wd_split_203_s, wq_ltT, wq_ltF, wq_inT, wq_clamp, wq_eqF, wq_eqm, wq_meq, wq_add, wq_mul, wq_subT, eq_self, Bool.false_eq_true, ↓reduceIte, Option.bind_some, Sum.elim_inl, Sum.elim_inr, ↓wq_f0b, ↓wq_f1b, ↓wq_f2b, ↓wq_r0b, ↓wq_r1b, ↓Option.bind_some]
      · simp (disch := omega) only [↓xf_wd_split_17_s, ↓xf_wd_split_203_s, wq_ltT, wq_ltF, wq_inT, wq_clamp, wq_eqF, wq_eqm, wq_meq, wq_add, wq_mul, wq_subT, eq_self, Bool.false_eq_true, ↓reduceIte, Option.bind_some, Sum.elim_inl, Sum.elim_inr, ↓wq_f0b, ↓wq_f1b, ↓wq_f2b, ↓wq_r0b, ↓wq_r1b, ↓Option.bind_some]
  | succ k ih =>
    intro p i T M b st o begin_ digits end_ first hk hM hp hi hT hK hst hbl
    obtain ⟨M', rfl⟩ : ∃ M', M = M' + 1 := ⟨M - 1, by omega⟩
    obtain ⟨k1, k2⟩ := id hK
    by_cases hpE : p < E
    · obtain ⟨_, c1, c2⟩ := hch p hpE
      have e1 := wt_sign hE hch (j := p) (by omega)
      have cp : wt_c ch E p = ch p := if_pos hpE
      rw [cp] at e1
      have eL := wt_isL (c := ch p) (by omega)
      have eD := wt_isD (c := ch p) (by omega)
      have eE := wt_endFrom hE hch hN hpE
      -- one turn: first the end of the word
      have turn : xf_wd_split_17 (Int32.ofNat E) signs N (M' + 1) begin_ digits end_ first (Int32.ofNat 0) (Int32.ofNat T) (wt_fl os) (Int32.ofNat p) (wt_fl (o T)) (Int32.ofNat i) = xf_wd_split_71 (Int32.ofNat E) signs (xf_wd_split_17 (Int32.ofNat E) signs N M') N begin_ digits end_ first (Int32.ofNat 0) (Int32.ofNat T) (wt_fl os) (Int32.ofNat p) (wt_fl (o T)) (Int32.ofNat i) (Int32.ofNat (ch p)) (wt_eo (wt_e ch E (o T) p)) := by
        rw [xf_wd_split_17_s]
        cases ho : o T with
        | false =>
          have f0 : wt_fl false = Int32.ofNat 0 := rfl
          rw [f0]
          simp (disch := omega) only [↓xf_wd_split_64_s, wq_ltT, wq_ltF, wq_inT, wq_clamp, wq_eqF, wq_eqm, wq_meq, wq_add, wq_mul, wq_subT, eq_self, Bool.false_eq_true, ↓reduceIte, Option.bind_some, Sum.elim_inl, Sum.elim_inr, ↓wq_f0b, ↓wq_f1b, ↓wq_f2b, ↓wq_r0b, ↓wq_r1b, ↓Option.bind_some, ↓wq_b e1, ↓wq_b eE]
        | true =>
          have f1 : wt_fl true = Int32.ofNat 1 := rfl
          rw [f1]
          by_cases hl : wt_lt (ch p) = true
          · rw [if_pos hl] at eL
            have we : wt_e ch E true p = some (p + 1) := by
              unfold wt_e
              rw [if_pos ⟨rfl, hl⟩]
            simp (disch := omega) only [wq_ltT, wq_ltF, wq_inT, wq_clamp, wq_eqF, wq_eqm, wq_meq, wq_add, wq_mul, wq_subT, eq_self, Bool.false_eq_true, ↓reduceIte, Option.bind_some, Sum.elim_inl, Sum.elim_inr, ↓wq_f0b, ↓wq_f1b, ↓wq_f2b, ↓wq_r0b, ↓wq_r1b, ↓Option.bind_some, ↓wq_b e1, ↓wq_b eL, we, wt_eo]
          · rw [if_neg hl] at eL
            have we : wt_e ch E true p = wt_e ch E false p := by
              unfold wt_e
              rw [if_neg (show ¬ (true = true ∧ wt_lt (ch p) = true) from fun hh => hl hh.2), if_neg (show ¬ (false = true ∧ wt_lt (ch p) = true) from fun hh => absurd hh.1 (by decide))]
            simp (disch := omega) only [↓xf_wd_split_64_s, wq_ltT, wq_ltF, wq_inT, wq_clamp, wq_eqF, wq_eqm, wq_meq, wq_add, wq_mul, wq_subT, eq_self, Bool.false_eq_true, ↓reduceIte, Option.bind_some, Sum.elim_inl, Sum.elim_inr, ↓wq_f0b, ↓wq_f1b, ↓wq_f2b, ↓wq_r0b, ↓wq_r1b, ↓Option.bind_some, ↓wq_b e1, ↓wq_b eL, ↓wq_b eE, we]
      -- and its end: the flag and the next place
      have fin : ∀ (B D N' F : Nat → Int32) (T' : Nat), xf_wd_split_150 (Int32.ofNat E) signs (xf_wd_split_17 (Int32.ofNat E) signs N M') N B D N' F (Int32.ofNat 0) (Int32.ofNat T') (wt_fl os) (wt_fl (o T)) (Int32.ofNat i) (Int32.ofNat (ch p)) (wt_eo (wt_e ch E (o T) p)) = xf_wd_split_17 (Int32.ofNat E) signs N M' B D N' F (Int32.ofNat 0) (Int32.ofNat T') (wt_fl os) (Int32.ofNat ((wt_e ch E (o T) p).getD E)) (wt_fl (wt_so os (o T) (ch p))) (Int32.ofNat (i + 1)) := by
        intro B D N' F T'
        have nx : ∀ x, xf_wd_split_177 (Int32.ofNat E) signs (xf_wd_split_17 (Int32.ofNat E) signs N M') N B D N' F (Int32.ofNat 0) (Int32.ofNat T') (wt_fl os) (Int32.ofNat i) (wt_eo (wt_e ch E (o T) p)) x = xf_wd_split_17 (Int32.ofNat E) signs N M' B D N' F (Int32.ofNat 0) (Int32.ofNat T') (wt_fl os) (Int32.ofNat ((wt_e ch E (o T) p).getD E)) x (Int32.ofNat (i + 1)) := by
          intro x
          cases hw : wt_e ch E (o T) p with
          | none =>
            have w1 : wt_eo none = -1 := rfl
            rw [w1]
            simp (disch := omega) only [↓xf_wd_split_177_s, ↓xf_wd_split_196_s, wq_ltT, wq_ltF, wq_inT, wq_clamp, wq_eqF, wq_eqm, wq_meq, wq_add, wq_mul, wq_subT, eq_self, Bool.false_eq_true, ↓reduceIte, Option.bind_some, Sum.elim_inl, Sum.elim_inr, ↓wq_f0b, ↓wq_f1b, ↓wq_f2b, ↓wq_r0b, ↓wq_r1b, ↓Option.bind_some]
            rfl
          | some r =>
            have := wt_e_le hpE hw
            have w1 : wt_eo (some r) = Int32.ofNat r := rfl
            rw [w1]
            simp (disch := omega) only [↓xf_wd_split_177_s, ↓xf_wd_split_196_s, wq_ltT, wq_ltF, wq_inT, wq_clamp, wq_eqF, wq_eqm, wq_meq, wq_add, wq_mul, wq_subT, eq_self, Bool.false_eq_true, ↓reduceIte, Option.bind_some, Sum.elim_inl, Sum.elim_inr, ↓wq_f0b, ↓wq_f1b, ↓wq_f2b, ↓wq_r0b, ↓wq_r1b, ↓Option.bind_some]
            rfl
        unfold wt_so
        by_cases h61 : ch p = 61
        · rw [if_pos h61]
          simp (disch := omega) only [↓xf_wd_split_150_s, wq_ltT, wq_ltF, wq_inT, wq_clamp, wq_eqF, wq_eqm, wq_meq, wq_add, wq_mul, wq_subT, eq_self, Bool.false_eq_true, ↓reduceIte, Option.bind_some, Sum.elim_inl, Sum.elim_inr, ↓wq_f0b, ↓wq_f1b, ↓wq_f2b, ↓wq_r0b, ↓wq_r1b, ↓Option.bind_some, h61, nx]
        · rw [if_neg h61]
          cases ho : o T with
          | false =>
            have f0 : wt_fl false = Int32.ofNat 0 := rfl
            rw [Bool.false_and, f0]
            rw [ho] at nx
            simp (disch := omega) only [↓xf_wd_split_150_s, ↓xf_wd_split_176_s, wq_ltT, wq_ltF, wq_inT, wq_clamp, wq_eqF, wq_eqm, wq_meq, wq_add, wq_mul, wq_subT, eq_self, Bool.false_eq_true, ↓reduceIte, Option.bind_some, Sum.elim_inl, Sum.elim_inr, ↓wq_f0b, ↓wq_f1b, ↓wq_f2b, ↓wq_r0b, ↓wq_r1b, ↓Option.bind_some, nx]
          | true =>
            have f1 : wt_fl true = Int32.ofNat 1 := rfl
            rw [ho] at nx
            by_cases h59 : ch p = 59
            · have f0 : wt_fl (true && !decide (ch p = 59)) = Int32.ofNat 0 := by
                rw [decide_eq_true h59]
                rfl
              rw [f0, f1]
              simp (disch := omega) only [↓xf_wd_split_150_s, ↓xf_wd_split_176_s, wq_ltT, wq_ltF, wq_inT, wq_clamp, wq_eqF, wq_eqm, wq_meq, wq_add, wq_mul, wq_subT, eq_self, Bool.false_eq_true, ↓reduceIte, Option.bind_some, Sum.elim_inl, Sum.elim_inr, ↓wq_f0b, ↓wq_f1b, ↓wq_f2b, ↓wq_r0b, ↓wq_r1b, ↓Option.bind_some, h59, nx]
            · have f2 : wt_fl (true && !decide (ch p = 59)) = Int32.ofNat 1 := by
                rw [decide_eq_false h59]
                rfl
              rw [f2, f1]
              simp (disch := omega) only [↓xf_wd_split_150_s, ↓xf_wd_split_176_s, wq_ltT, wq_ltF, wq_inT, wq_clamp, wq_eqF, wq_eqm, wq_meq, wq_add, wq_mul, wq_subT, eq_self, Bool.false_eq_true, ↓reduceIte, Option.bind_some, Sum.elim_inl, Sum.elim_inr, ↓wq_f0b, ↓wq_f1b, ↓wq_f2b, ↓wq_r0b, ↓wq_r1b, ↓Option.bind_some, nx]
      -- the place behind it
      have nb : p < (wt_e ch E (o T) p).getD E ∧ (wt_e ch E (o T) p).getD E ≤ E := by
        cases hw : wt_e ch E (o T) p with
        | none => exact ⟨hpE, Nat.le_refl E⟩
        | some r => exact wt_e_le hpE hw
      rw [turn, xf_wd_split_71_s]
      by_cases h32 : ch p = 32
      · have we : wt_e ch E (o T) p = some (p + 1) := by
          unfold wt_e
          have l0 : ¬ wt_lt (ch p) = true := fun hh => by
            have := wt_lt_iff.mp hh
            omega
          have d0 : ¬ wt_dg (ch p) = true := fun hh => by
            have := wt_dg_iff.mp hh
            omega
          rw [if_neg (fun hh => l0 hh.2), if_neg (by omega), if_neg d0, if_neg l0]
        have so : wt_so os (o T) (ch p) = o T := by
          unfold wt_so
          rw [if_neg (by omega), decide_eq_false (by omega), Bool.not_false, Bool.and_true]
        rw [if_pos (by rw [h32]), fin, so, we]
        exact ih (p + 1) (i + 1) T M' b st o begin_ digits end_ first (by omega) (by omega) (by omega) (by omega) (by omega) hK (by omega) (fun j h1 h2 => by
          by_cases e : j = p
          · rw [e]
            exact h32
          · exact hbl j h1 (by omega))
      · have n32 : ¬ Int32.ofNat (ch p) = Int32.ofNat 32 := fun hh => h32 (wq_inj (by omega) (by omega) hh)
        -- the word is laid down
        have lay : xf_wd_split_71 (Int32.ofNat E) signs (xf_wd_split_17 (Int32.ofNat E) signs N M') N begin_ digits end_ first (Int32.ofNat 0) (Int32.ofNat T) (wt_fl os) (Int32.ofNat p) (wt_fl (o T)) (Int32.ofNat i) (Int32.ofNat (ch p)) (wt_eo (wt_e ch E (o T) p)) = xf_wd_split_150 (Int32.ofNat E) signs (xf_wd_split_17 (Int32.ofNat E) signs N M') N (upd begin_ T (Int32.ofNat p)) (upd digits T (wt_ds ch E p)) (upd end_ T (wt_eo (wt_e ch E (o T) p))) (upd first T (Int32.ofNat (ch p))) (Int32.ofNat 0) (Int32.ofNat (T + 1)) (wt_fl os) (wt_fl (o T)) (Int32.ofNat i) (Int32.ofNat (ch p)) (wt_eo (wt_e ch E (o T) p)) := by
          rw [xf_wd_split_71_s]
          by_cases hd : wt_dg (ch p) = true
          · rw [if_pos hd] at eD
            have d1 := wt_dg_iff.mp hd
            have l0 : ¬ wt_lt (ch p) = true := fun hh => by
              have := wt_lt_iff.mp hh
              omega
            have we : wt_e ch E (o T) p = some (wt_end wt_dg ch E (p + 1)) := by
              unfold wt_e
              rw [if_neg (fun hh => l0 hh.2), if_neg (by omega), if_pos hd]
            have w1 : wt_eo (some (wt_end wt_dg ch E (p + 1))) = Int32.ofNat (wt_end wt_dg ch E (p + 1)) := rfl
            have db := wt_dsv hE hch hN hpE hd
            rw [we, w1]
            simp (disch := omega) only [↓xf_wd_split_139_s, wq_ltT, wq_ltF, wq_inT, wq_clamp, wq_eqF, wq_eqm, wq_meq, wq_add, wq_mul, wq_subT, eq_self, Bool.false_eq_true, ↓reduceIte, Option.bind_some, Sum.elim_inl, Sum.elim_inr, ↓wq_f0b, ↓wq_f1b, ↓wq_f2b, ↓wq_r0b, ↓wq_r1b, ↓Option.bind_some, n32, ↓wq_b eD, ↓wq_b db, wq_nar]
          · rw [if_neg hd] at eD
            have ds : wt_ds ch E p = -1 := by
              unfold wt_ds
              rw [if_neg hd]
            rw [ds]
            simp (disch := omega) only [↓xf_wd_split_139_s, wq_ltT, wq_ltF, wq_inT, wq_clamp, wq_eqF, wq_eqm, wq_meq, wq_add, wq_mul, wq_subT, eq_self, Bool.false_eq_true, ↓reduceIte, Option.bind_some, Sum.elim_inl, Sum.elim_inr, ↓wq_f0b, ↓wq_f1b, ↓wq_f2b, ↓wq_r0b, ↓wq_r1b, ↓Option.bind_some, n32, ↓wq_b eD, wq_nar]
        rw [← xf_wd_split_71_s, lay, fin]
        have key := ih ((wt_e ch E (o T) p).getD E) (i + 1) (T + 1) M' (fun j => if j = T then p else b j) (fun j => if j = T + 1 then (wt_e ch E (o T) p).getD E else st j) (fun j => if j = T + 1 then wt_so os (o T) (ch p) else o j) (upd begin_ T (Int32.ofNat p)) (upd digits T (wt_ds ch E p)) (upd end_ T (wt_eo (wt_e ch E (o T) p))) (upd first T (Int32.ofNat (ch p))) (by omega) (by omega) (by omega) (by omega) (by omega) ⟨⟨(if_neg (by omega : ¬ 0 = T + 1)).trans k1.1, (if_neg (by omega : ¬ 0 = T + 1)).trans k1.2⟩, fun j hj => by
          by_cases e : j = T
          · subst e
            show (if j = j + 1 then _ else st j) ≤ (if j = j then p else b j) ∧ (if j = j then p else b j) < E ∧ ch (if j = j then p else b j) ≠ 32 ∧ (∀ x, (if j = j + 1 then _ else st j) ≤ x → x < (if j = j then p else b j) → ch x = 32) ∧ (if j + 1 = j + 1 then (wt_e ch E (o j) p).getD E else st (j + 1)) = (wt_e ch E (if j = j + 1 then _ else o j) (if j = j then p else b j)).getD E ∧ (if j + 1 = j + 1 then wt_so os (o j) (ch p) else o (j + 1)) = wt_so os (if j = j + 1 then _ else o j) (ch (if j = j then p else b j)) ∧ upd begin_ j (Int32.ofNat p) j = Int32.ofNat (if j = j then p else b j) ∧ upd end_ j _ j = wt_eo (wt_e ch E (if j = j + 1 then _ else o j) (if j = j then p else b j)) ∧ upd first j _ j = Int32.ofNat (ch (if j = j then p else b j)) ∧ upd digits j _ j = wt_ds ch E (if j = j then p else b j)
            rw [if_neg (by omega : ¬ j = j + 1), if_pos rfl, if_pos rfl, if_pos rfl, if_neg (by omega : ¬ j = j + 1), wq_upd1, wq_upd1, wq_upd1, wq_upd1]
            exact ⟨hst, hpE, h32, hbl, rfl, rfl, rfl, rfl, rfl, rfl⟩
          · obtain ⟨a1, a2, a3, a4, a5, a6, a7, a8, a9, a10⟩ := k2 j (by omega)
            show (if j = T + 1 then _ else st j) ≤ (if j = T then p else b j) ∧ (if j = T then p else b j) < E ∧ ch (if j = T then p else b j) ≠ 32 ∧ (∀ x, (if j = T + 1 then _ else st j) ≤ x → x < (if j = T then p else b j) → ch x = 32) ∧ (if j + 1 = T + 1 then _ else st (j + 1)) = (wt_e ch E (if j = T + 1 then _ else o j) (if j = T then p else b j)).getD E ∧ (if j + 1 = T + 1 then _ else o (j + 1)) = wt_so os (if j = T + 1 then _ else o j) (ch (if j = T then p else b j)) ∧ upd begin_ T (Int32.ofNat p) j = Int32.ofNat (if j = T then p else b j) ∧ upd end_ T _ j = wt_eo (wt_e ch E (if j = T + 1 then _ else o j) (if j = T then p else b j)) ∧ upd first T _ j = Int32.ofNat (ch (if j = T then p else b j)) ∧ upd digits T _ j = wt_ds ch E (if j = T then p else b j)
            rw [if_neg (by omega : ¬ j = T + 1), if_neg e, if_neg (by omega : ¬ j + 1 = T + 1), if_neg (by omega : ¬ j + 1 = T + 1), if_neg (by omega : ¬ j = T + 1), wq_upd2 e, wq_upd2 e, wq_upd2 e, wq_upd2 e]
            exact ⟨a1, a2, a3, a4, a5, a6, a7, a8, a9, a10⟩⟩ (by rw [if_pos rfl]; exact Nat.le_refl _) (fun j h1 h2 => by
          rw [if_pos rfl] at h1
          omega)
        rw [if_pos rfl] at key
        exact key
    · have e : p = E := by omega
      subst e
      refine ⟨T, fun j => if j = T then p else b j, st, o, begin_, digits, end_, first, ⟨⟨k1, fun i hi => ?_⟩, hT, if_pos rfl, hst, hbl⟩, ?_⟩
      · have eb : (fun j => if j = T then p else b j) i = b i := if_neg (by omega)
        rw [eb]
        exact k2 i hi
      · by_cases h12 : i < 1200
        · simp (disch := omega) only [↓xf_wd_split_17_s, ↓xf_wd_split_203_s, wq_ltT, wq_ltF, wq_inT, wq_clamp, wq_eqF, wq_eqm, wq_meq, wq_add, wq_mul, wq_subT, eq_self, Bool.false_eq_true, ↓reduceIte, Option.bind_some, Sum.elim_inl, Sum.elim_inr, ↓wq_f0b, ↓wq_f1b, ↓wq_f2b, ↓wq_r0b, ↓wq_r1b, ↓Option.bind_some]
        · simp (disch := omega) only [↓xf_wd_split_17_s, ↓xf_wd_split_203_s, wq_ltT, wq_ltF, wq_inT, wq_clamp, wq_eqF, wq_eqm, wq_meq, wq_add, wq_mul, wq_subT, eq_self, Bool.false_eq_true, ↓reduceIte, Option.bind_some, Sum.elim_inl, Sum.elim_inr, ↓wq_f0b, ↓wq_f1b, ↓wq_f2b, ↓wq_r0b, ↓wq_r1b, ↓Option.bind_some]
end
