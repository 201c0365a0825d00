/-! what the run's words say when they answer -/
section
variable {ρ : Type} {r : ρ} {st : List Value} {o : Option Value}
theorem xn_ii {f : Int32 → Int32 → Int32} {nx : List Value → Option ρ} (h : xr_ii st f nx = some r) : ∃ x y rs, st = .int y :: .int x :: rs ∧ nx (.int (f x y) :: rs) = some r := by
  unfold xr_ii at h; split at h
  · exact ⟨_, _, _, rfl, h⟩
  · cases h
theorem xn_ll {f : Int64 → Int64 → Int64} {nx : List Value → Option ρ} (h : xr_ll st f nx = some r) : ∃ x y rs, st = .long y :: .long x :: rs ∧ nx (.long (f x y) :: rs) = some r := by
  unfold xr_ll at h; split at h
  · exact ⟨_, _, _, rfl, h⟩
  · cases h
theorem xn_li {f : Int64 → Int32 → Int64} {nx : List Value → Option ρ} (h : xr_li st f nx = some r) : ∃ x y rs, st = .int y :: .long x :: rs ∧ nx (.long (f x y) :: rs) = some r := by
  unfold xr_li at h; split at h
  · exact ⟨_, _, _, rfl, h⟩
  · cases h
theorem xn_i1 {nx : Int32 → List Value → Option ρ} (h : xr_i1 st nx = some r) : ∃ x rs, st = .int x :: rs ∧ nx x rs = some r := by
  unfold xr_i1 at h; split at h
  · exact ⟨_, _, rfl, h⟩
  · cases h
theorem xn_i2 {nx : Int32 → Int32 → List Value → Option ρ} (h : xr_i2 st nx = some r) : ∃ x y rs, st = .int y :: .int x :: rs ∧ nx x y rs = some r := by
  unfold xr_i2 at h; split at h
  · exact ⟨_, _, _, rfl, h⟩
  · cases h
theorem xn_l1 {nx : Int64 → List Value → Option ρ} (h : xr_l1 st nx = some r) : ∃ x rs, st = .long x :: rs ∧ nx x rs = some r := by
  unfold xr_l1 at h; split at h
  · exact ⟨_, _, rfl, h⟩
  · cases h
theorem xn_l2 {nx : Int64 → Int64 → List Value → Option ρ} (h : xr_l2 st nx = some r) : ∃ x y rs, st = .long y :: .long x :: rs ∧ nx x y rs = some r := by
  unfold xr_l2 at h; split at h
  · exact ⟨_, _, _, rfl, h⟩
  · cases h
theorem xn_a1 {nx : Nat → List Value → Option ρ} (h : xr_a1 st nx = some r) : ∃ x rs, st = .ref x :: rs ∧ nx x rs = some r := by
  unfold xr_a1 at h; split at h
  · exact ⟨_, _, rfl, h⟩
  · cases h
theorem xn_gi {nx : Int32 → Option ρ} (h : xr_gi o nx = some r) : ∃ x, o = some (.int x) ∧ nx x = some r := by
  unfold xr_gi at h; split at h
  · exact ⟨_, rfl, h⟩
  · cases h
theorem xn_gl {nx : Int64 → Option ρ} (h : xr_gl o nx = some r) : ∃ x, o = some (.long x) ∧ nx x = some r := by
  unfold xr_gl at h; split at h
  · exact ⟨_, rfl, h⟩
  · cases h
theorem xn_ga {nx : Nat → Option ρ} (h : xr_ga o nx = some r) : ∃ x, o = some (.ref x) ∧ nx x = some r := by
  unfold xr_ga at h; split at h
  · exact ⟨_, rfl, h⟩
  · cases h
theorem xn_if {c : Prop} [Decidable c] {A : Option ρ} (h : (if c then A else none) = some r) : c ∧ A = some r := by
  split at h
  · exact ⟨by assumption, h⟩
  · cases h
theorem xn_ifn {c : Prop} [Decidable c] {A : Option ρ} (h : (if c then none else A) = some r) : ¬ c ∧ A = some r := by
  split at h
  · cases h
  · exact ⟨by assumption, h⟩
theorem xn_ci {c : Option xr_C} {t : Nat} {nx : Nat → (Nat → Int32) → Option ρ} (h : xr_ci c t nx = some r) : ∃ n f, c = some (.inl (t, n, .inl f)) ∧ nx n f = some r := by
  unfold xr_ci at h; split at h
  · obtain ⟨ht, h2⟩ := xn_if h
    subst ht
    exact ⟨_, _, rfl, h2⟩
  · cases h
theorem xn_cl {c : Option xr_C} {nx : Nat → (Nat → Int64) → Option ρ} (h : xr_cl c nx = some r) : ∃ n f, c = some (.inl (1, n, .inr (.inl f))) ∧ nx n f = some r := by
  unfold xr_cl at h; split at h
  · obtain ⟨ht, h2⟩ := xn_if h
    subst ht
    exact ⟨_, _, rfl, h2⟩
  · cases h
theorem xn_co {c : Option xr_C} {ci : Nat} {nx : List Value → Option ρ} (h : xr_co c ci nx = some r) : ∃ fs, c = some (.inr (ci, fs)) ∧ nx fs = some r := by
  unfold xr_co at h; split at h
  · obtain ⟨ht, h2⟩ := xn_if h
    subst ht
    exact ⟨_, rfl, h2⟩
  · cases h
theorem xn_c0 {c : ClassFile.Cond} {x : Int32} {A B : Option ρ} (h : xr_c0 c x A B = some r) : match c with
  | .eq => (x = 0 → A = some r) ∧ (¬ x = 0 → B = some r)
  | .ne => (¬ x = 0 → A = some r) ∧ (x = 0 → B = some r)
  | .lt => (x < 0 → A = some r) ∧ (¬ x < 0 → B = some r)
  | .ge => (¬ x < 0 → A = some r) ∧ (x < 0 → B = some r)
  | .gt => (0 < x → A = some r) ∧ (¬ 0 < x → B = some r)
  | .le => (¬ 0 < x → A = some r) ∧ (0 < x → B = some r) := by
  cases c
  · exact ⟨fun z => by rw [xr_c0, if_pos z] at h; exact h, fun z => by rw [xr_c0, if_neg z] at h; exact h⟩
  · exact ⟨fun z => by rw [xr_c0, if_neg z] at h; exact h, fun z => by rw [xr_c0, if_pos z] at h; exact h⟩
  · exact ⟨fun z => by rw [xr_c0, if_pos z] at h; exact h, fun z => by rw [xr_c0, if_neg z] at h; exact h⟩
  · exact ⟨fun z => by rw [xr_c0, if_neg z] at h; exact h, fun z => by rw [xr_c0, if_pos z] at h; exact h⟩
  · exact ⟨fun z => by rw [xr_c0, if_pos z] at h; exact h, fun z => by rw [xr_c0, if_neg z] at h; exact h⟩
  · exact ⟨fun z => by rw [xr_c0, if_neg z] at h; exact h, fun z => by rw [xr_c0, if_pos z] at h; exact h⟩
theorem xn_c2 {c : ClassFile.Cond} {x y : Int32} {A B : Option ρ} (h : xr_c2 c x y A B = some r) : match c with
  | .eq => (x = y → A = some r) ∧ (¬ x = y → B = some r)
  | .ne => (¬ x = y → A = some r) ∧ (x = y → B = some r)
  | .lt => (x < y → A = some r) ∧ (¬ x < y → B = some r)
  | .ge => (¬ x < y → A = some r) ∧ (x < y → B = some r)
  | .gt => (y < x → A = some r) ∧ (¬ y < x → B = some r)
  | .le => (¬ y < x → A = some r) ∧ (y < x → B = some r) := by
  cases c
  · exact ⟨fun z => by rw [xr_c2, if_pos z] at h; exact h, fun z => by rw [xr_c2, if_neg z] at h; exact h⟩
  · exact ⟨fun z => by rw [xr_c2, if_neg z] at h; exact h, fun z => by rw [xr_c2, if_pos z] at h; exact h⟩
  · exact ⟨fun z => by rw [xr_c2, if_pos z] at h; exact h, fun z => by rw [xr_c2, if_neg z] at h; exact h⟩
  · exact ⟨fun z => by rw [xr_c2, if_neg z] at h; exact h, fun z => by rw [xr_c2, if_pos z] at h; exact h⟩
  · exact ⟨fun z => by rw [xr_c2, if_pos z] at h; exact h, fun z => by rw [xr_c2, if_neg z] at h; exact h⟩
  · exact ⟨fun z => by rw [xr_c2, if_neg z] at h; exact h, fun z => by rw [xr_c2, if_pos z] at h; exact h⟩
end
