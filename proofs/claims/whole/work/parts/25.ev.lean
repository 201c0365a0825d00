/-! GOING ON: the machine's way from a state of the run, in steps that a program writes. -/
def xV (P : xr_P) (l : Launch) (g : xr_G) (q : xr_K) (r : xr_R) : Prop := q.2.1 = (xp_B P q.1).1 → q.2.2.1 = (xp_B P q.1).2 → xr_J P l g q.1 q.2.2.2.1 q.2.2.2.2.1 q.2.2.2.2.2.1 q.2.2.2.2.2.2.1 q.2.2.2.2.2.2.2.1 q.2.2.2.2.2.2.2.2 r
def xX (P : xr_P) (l : Launch) (g : xr_G) (G : (xr_K → Option xr_R) → Option xr_R) (r : xr_R) : Prop := ∃ K : xr_K → Option xr_R, xr_Go P l g K ∧ G K = some r
def xr_mask {α : Type} : List Bool → List α → List α
  | true :: m, x :: l => x :: xr_mask m l
  | false :: m, _ :: l => xr_mask m l
  | _, _ => []
theorem xr_mask_mem {α : Type} : ∀ (m : List Bool) (l : List α) (x : α), x ∈ xr_mask m l → x ∈ l
  | true :: m, y :: l, x, h => by
    rcases List.mem_cons.mp h with h | h
    · rw [h]; exact List.mem_cons_self
    · exact List.mem_cons_of_mem _ (xr_mask_mem m l x h)
  | false :: m, y :: l, x, h => List.mem_cons_of_mem _ (xr_mask_mem m l x h)
  | [], _, _, h => by cases h
  | true :: _, [], _, h => by cases h
  | false :: _, [], _, h => by cases h
section
variable {P : xr_P} {l : Launch} {g : xr_G} {r : xr_R}
theorem xV_go {k : xr_K → Option xr_R} (hk : xr_Go P l g k) {q : xr_K} (h : k q = some r) : xV P l g q r := by
  obtain ⟨M, C, I, ce, sl, pc, lv, st, ws⟩ := q
  intro h1 h2
  replace h1 : C = (xp_B P M).1 := h1
  replace h2 : I = (xp_B P M).2 := h2
  subst h1; subst h2
  exact hk M ce sl pc lv st ws r h
theorem xV_of {M ce sl pc : Nat} {lv : List (Nat × Value)} {st : List Value} {ws : xr_W} (h : xV P l g (M, (xp_B P M).1, (xp_B P M).2, ce, sl, pc, lv, st, ws) r) : xr_J P l g M ce sl pc lv st ws r := h rfl rfl
theorem xe_it (ok : xr_OK P) {K : xr_K → Option xr_R} (hK : xr_Go P l g K) : ∀ n : Nat, xr_Go P l g (xr_it (xg_sc g) (xp_B P) (xp_t P) n K)
  | 0 => hK
  | n + 1 => xr_step_ok ok (xe_it ok hK n)
theorem xe_seg (ok : xr_OK P) (n : Nat) {q : xr_K} {G : (xr_K → Option xr_R) → Option xr_R} (hG : ∀ K : xr_K → Option xr_R, xr_it (xg_sc g) (xp_B P) (xp_t P) n K q = G K) (h : xX P l g G r) : xV P l g q r := by
  obtain ⟨K, hK, h⟩ := h
  exact xV_go (xe_it ok hK n) ((hG K).trans h)
noncomputable def xe_K1 (q : xr_K) (r : xr_R) : xr_K → Option xr_R := fun z => @ite _ (z = q) (Classical.propDecidable _) (some r) none
noncomputable def xe_K2 (q1 : xr_K) (r1 : xr_R) (q2 : xr_K) (r2 : xr_R) : xr_K → Option xr_R := fun z => @ite _ (z = q1) (Classical.propDecidable _) (some r1) (xe_K1 q2 r2 z)
theorem xe_K1_at (q : xr_K) (r : xr_R) : xe_K1 q r q = some r := by
  unfold xe_K1
  rw [if_pos rfl]
theorem xe_K1_of {q z : xr_K} {r r' : xr_R} (h : xe_K1 q r z = some r') : z = q ∧ r' = r := by
  unfold xe_K1 at h
  split at h
  · rename_i hz
    exact ⟨hz, (Option.some.inj h).symm⟩
  · cases h
theorem xe_K2_1 (q1 : xr_K) (r1 : xr_R) (q2 : xr_K) (r2 : xr_R) : xe_K2 q1 r1 q2 r2 q1 = some r1 := by
  unfold xe_K2
  rw [if_pos rfl]
theorem xe_K2_2 {q1 : xr_K} (r1 : xr_R) {q2 : xr_K} (r2 : xr_R) (hne : q2.1 ≠ q1.1) : xe_K2 q1 r1 q2 r2 q2 = some r2 := by
  unfold xe_K2
  rw [if_neg (fun e => hne (by rw [e])), xe_K1_at]
theorem xV_at {q : xr_K} (h : xV P l g q r) {M ce sl pc : Nat} {lv : List (Nat × Value)} {st : List Value} {ws : xr_W} (e : (M, (xp_B P M).1, (xp_B P M).2, ce, sl, pc, lv, st, ws) = q) : xr_J P l g M ce sl pc lv st ws r := by
  subst e
  exact h rfl rfl
theorem xe_K1_go {q : xr_K} (h : xV P l g q r) : xr_Go P l g (xe_K1 q r) := by
  intro M ce sl pc lv st ws r' hz
  obtain ⟨e1, e2⟩ := xe_K1_of hz
  rw [e2]
  exact xV_at h e1
theorem xe_K2_go {q1 q2 : xr_K} {r1 r2 : xr_R} (h1 : xV P l g q1 r1) (h2 : xV P l g q2 r2) : xr_Go P l g (xe_K2 q1 r1 q2 r2) := by
  intro M ce sl pc lv st ws r' hz
  unfold xe_K2 at hz
  split at hz
  · rename_i e1
    cases hz
    exact xV_at h1 e1
  · exact xe_K1_go h2 M ce sl pc lv st ws r' hz
theorem xe_k {q : xr_K} (h : xV P l g q r) : xX P l g (fun K => K q) r := ⟨xe_K1 q r, xe_K1_go h, xe_K1_at q r⟩
theorem xe_pos {c : Prop} [Decidable c] {A B : (xr_K → Option xr_R) → Option xr_R} (hc : c) (h : xX P l g A r) : xX P l g (fun K => if c then A K else B K) r := by
  obtain ⟨K, hK, h⟩ := h
  exact ⟨K, hK, by show (if c then A K else B K) = some r; rw [if_pos hc]; exact h⟩
theorem xe_neg {c : Prop} [Decidable c] {A B : (xr_K → Option xr_R) → Option xr_R} (hc : ¬ c) (h : xX P l g B r) : xX P l g (fun K => if c then A K else B K) r := by
  obtain ⟨K, hK, h⟩ := h
  exact ⟨K, hK, by show (if c then A K else B K) = some r; rw [if_neg hc]; exact h⟩
theorem xe_ret : xX P l g (fun _ => some r) r := ⟨fun _ => none, (fun _ _ _ _ _ _ _ _ h => nomatch h), rfl⟩
section
variable {M a ce sl pc n0 : Nat} {th : Bool} {C C' : List xr_E} {I I' : xr_M} {lv lv' : List (Nat × Value)} {rest st' : List Value} {ws ws' : xr_W} {ce' sl' pc' : Nat}
theorem xe_call0 (hne : M ≠ a) (hc : xV P l g (a, C', I', ce', sl', pc', lv', st', ws) (.inl none, ws')) (hal : I.2.2.1 = false ∨ n0 ≤ ws'.length) (h : xV P l g (M, C, I, ce, sl, pc + 3, lv, rest, ws') r) : xX P l g (fun K => xr_back K M C I ce sl pc lv rest n0 th (K (a, C', I', ce', sl', pc', lv', st', ws))) r := by
  refine ⟨_, xe_K2_go hc h, ?_⟩
  show xr_back _ M C I ce sl pc lv rest n0 th (xe_K2 _ _ _ _ _) = some r
  rw [xe_K2_1]
  show (if I.2.2.1 = false ∨ n0 ≤ ws'.length then _ else none) = some r
  rw [if_pos hal]
  exact xe_K2_2 _ r hne
theorem xe_call1 {y : Value} (hne : M ≠ a) (hc : xV P l g (a, C', I', ce', sl', pc', lv', st', ws) (.inl (some y), ws')) (hal : I.2.2.1 = false ∨ n0 ≤ ws'.length) (h : xV P l g (M, C, I, ce, sl, pc + 3, lv, y :: rest, ws') r) : xX P l g (fun K => xr_back K M C I ce sl pc lv rest n0 th (K (a, C', I', ce', sl', pc', lv', st', ws))) r := by
  refine ⟨_, xe_K2_go hc h, ?_⟩
  show xr_back _ M C I ce sl pc lv rest n0 th (xe_K2 _ _ _ _ _) = some r
  rw [xe_K2_1]
  show (if I.2.2.1 = false ∨ n0 ≤ ws'.length then _ else none) = some r
  rw [if_pos hal]
  exact xe_K2_2 _ r hne
theorem xe_thr {E : String} (hc : xV P l g (a, C', I', ce', sl', pc', lv', st', ws) (.inr E, ws')) (hal : I.2.2.1 = false) (hth : th = true) (hh : I.2.2.2.2.2.1 = []) : xX P l g (fun K => xr_back K M C I ce sl pc lv rest n0 th (K (a, C', I', ce', sl', pc', lv', st', ws))) (.inr E, ws') := by
  refine ⟨_, xe_K1_go hc, ?_⟩
  show xr_back _ M C I ce sl pc lv rest n0 th (xe_K1 _ _ _) = _
  rw [xe_K1_at]
  simp only [xr_back]
  rw [if_pos ⟨hal, hth⟩, hh]
theorem xe_catch {E : String} {q' : xr_K} (hne : q'.1 ≠ a) (hc : xV P l g (a, C', I', ce', sl', pc', lv', st', ws) (.inr E, ws')) (hq : ∀ K : xr_K → Option xr_R, xr_back K M C I ce sl pc lv rest n0 th (some (.inr E, ws')) = K q') (h : xV P l g q' r) : xX P l g (fun K => xr_back K M C I ce sl pc lv rest n0 th (K (a, C', I', ce', sl', pc', lv', st', ws))) r := by
  refine ⟨_, xe_K2_go hc h, ?_⟩
  show xr_back _ M C I ce sl pc lv rest n0 th (xe_K2 _ _ _ _ _) = some r
  rw [xe_K2_1, hq]
  exact xe_K2_2 _ r hne
theorem xe_sub {st : List Value} (m : List Bool) (hm : xr_mask m lv = lv') (h : xV P l g (M, C, I, ce, sl, pc, lv', st, ws) r) : xV P l g (M, C, I, ce, sl, pc, lv, st, ws) r :=
  fun h1 h2 p e s mm args below meth c H locs ls ad ad0 n1 cx lo hl hA hS => h h1 h2 p e s mm args below meth c H locs ls ad ad0 n1 cx lo (xr_has_of hl (xr_l_mem (fun z hz => xr_mask_mem m lv z (by rw [hm]; exact hz)))) hA hS
end
end
section
variable {ρ σ τ : Type} {r : ρ}
theorem xb_if {c : Prop} [Decidable c] {A B : Option ρ} (h : (if c then A else B) = some r) : (c ∧ A = some r) ∨ (¬ c ∧ B = some r) := by
  split at h
  · exact Or.inl ⟨by assumption, h⟩
  · exact Or.inr ⟨by assumption, h⟩
theorem xb_sum {f : σ → Option ρ} {h : τ → Option ρ} {s : σ ⊕ τ} (e : Sum.elim f h s = some r) : (∃ a, s = .inl a ∧ f a = some r) ∨ (∃ b, s = .inr b ∧ h b = some r) := by
  cases s with
  | inl a => exact Or.inl ⟨a, rfl, e⟩
  | inr b => exact Or.inr ⟨b, rfl, e⟩
end
def xo_i (s : Int32 ⊕ String) : Option Value ⊕ String := match s with
  | .inl a => .inl (some (.int a))
  | .inr E => .inr E
def xo_l (s : Int64 ⊕ String) : Option Value ⊕ String := match s with
  | .inl a => .inl (some (.long a))
  | .inr E => .inr E
def xo_v (s : Unit ⊕ String) : Option Value ⊕ String := match s with
  | .inl _ => .inl none
  | .inr E => .inr E
abbrev xe_shl (x : Int64) (y : Int32) : Int64 := x <<< (y.toInt64 &&& 63)
abbrev xe_shr (x : Int64) (y : Int32) : Int64 := x >>> (y.toInt64 &&& 63)
abbrev xe_ushr (x : Int64) (y : Int32) : Int64 := (x.toUInt64 >>> (y.toInt64.toUInt64 &&& Int64.toUInt64 63)).toInt64
abbrev xe_max (x y : Int32) : Int32 := if x < y then y else x
abbrev xe_i2c (x : Int32) : Int32 := (x.toUInt32 % 65536).toInt32
/-- a world with another array, another field -/
def xy_a (A : Nat → Nat → Int32) (k : Nat) (f : Nat → Int32) : Nat → Nat → Int32 := fun j => bif Nat.beq j k then f else A j
def xy_l (A : Nat → Nat → Int64) (k : Nat) (f : Nat → Int64) : Nat → Nat → Int64 := fun j => bif Nat.beq j k then f else A j
def xy_s (S : Nat → Nat → Int32) (k i : Nat) (v : Int32) : Nat → Nat → Int32 := fun j m => bif (Nat.beq j k && Nat.beq m i) then v else S j m
