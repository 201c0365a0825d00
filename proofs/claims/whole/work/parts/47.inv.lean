/-! WHAT HOLDS BETWEEN TWO CALLS. -/
/-- letters as one long, the first the highest -/
def wq_pack (f : Nat → Int32) (b : Nat) : Nat → Int64
  | 0 => 0
  | m + 1 => xe_shl (wq_pack f b m) (Int32.ofNat 8) ||| (f (b + m)).toInt64
/-- the text -/
def wi_T (len size : Int32) (signs text : Nat → Int32) : Prop := ∃ e : Nat, e ≤ 1200 ∧ len = Int32.ofNat e ∧ size = Int32.ofNat e ∧ ∀ j, j < e → text j = signs j ∧ ∃ k, 32 ≤ k ∧ k ≤ 126 ∧ signs j = Int32.ofNat k
/-- an argument's value and items, by its sort -/
def wi_v (n : Nat) (a : Nat → Nat) (t c : Nat) (v : Int32) (it : Nat → Int32) : Prop :=
  t ≤ 6 ∧ c ≤ 20 ∧
  (t = 0 → c = 0 ∧ ¬ v < -999999999 ∧ ¬ Int32.ofNat 999999999 < v) ∧
  (t = 1 → v = Int32.ofNat c ∧ ∀ i, i < c → ∃ k, 32 ≤ k ∧ k ≤ 126 ∧ it i = Int32.ofNat k) ∧
  (t = 2 → c = 0 ∧ ∃ q, q < n ∧ v = Int32.ofNat (a q)) ∧
  (t = 3 → v = Int32.ofNat c ∧ c ≤ 6 ∧ ∀ i, i < c → ¬ it i < -999999999 ∧ ¬ Int32.ofNat 999999999 < it i) ∧
  (t = 4 → v = Int32.ofNat c ∧ c ≤ 6 ∧ ∀ i, i < c → ∃ q, q < n ∧ it i = Int32.ofNat (a q)) ∧
  (t = 5 → v = Int32.ofNat c ∧ c ≤ 8 ∧ ∀ i, i < c → ∃ k, 65 ≤ k ∧ k ≤ 90 ∧ it i = Int32.ofNat k) ∧
  (t = 6 → c = 0 ∧ v = Int32.ofNat 0)
/-- the lines of one of the reference's models -/
def wi_V (n : Nat) (a z m : Nat → Nat) (t c : Nat → Nat → Nat) (rl : Int32) (numbers letters names parts sorts values items : Nat → Int32) : Prop :=
  (n ≤ 40 ∧ rl = Int32.ofNat n) ∧
  (∀ p, p < n → numbers p = Int32.ofNat (a p) ∧ 1 ≤ a p ∧ a p ≤ 999) ∧
  (∀ p q, p < q → q < n → a p < a q) ∧
  (∀ p, p < n → letters p = Int32.ofNat (m p) ∧ 1 ≤ m p ∧ m p ≤ 8 ∧ ∀ i, i < m p → ∃ k, 65 ≤ k ∧ k ≤ 90 ∧ names (8 * p + i) = Int32.ofNat k) ∧
  (∀ p, p < n → parts p = Int32.ofNat (z p) ∧ 1 ≤ z p ∧ z p ≤ 8) ∧
  (∀ p k, p < n → k < z p → sorts (8 * p + k) = Int32.ofNat (t p k) ∧ wi_v n a (t p k) (c p k) (values (8 * p + k)) (fun i => items (20 * (8 * p + k) + i)))
/-- the rows of one of the class's models, beside the reference's -/
def wi_M (n R u : Nat) (o a z m : Nat → Nat) (t c s : Nat → Nat → Nat) (rows lines used : Int32) (number : Nat → Int32) (name : Nat → Int64) (size order sort value start items names values ritems : Nat → Int32) : Prop :=
  (n ≤ R ∧ R ≤ 40 ∧ u ≤ 1200 ∧ rows = Int32.ofNat R ∧ lines = Int32.ofNat n ∧ used = Int32.ofNat u) ∧
  (∀ p, p < n → o p < R ∧ order p = Int32.ofNat (o p) ∧ number (o p) = Int32.ofNat (a p) ∧ size (o p) = Int32.ofNat (z p) ∧ name (o p) = wq_pack names (8 * p) (m p)) ∧
  (∀ p q, p < n → q < n → o p = o q → p = q) ∧
  (∀ p k, p < n → k < z p → sort (o p * 8 + k) = Int32.ofNat (t p k) ∧ value (o p * 8 + k) = values (8 * p + k) ∧ (1 ≤ c p k → start (o p * 8 + k) = Int32.ofNat (s p k) ∧ s p k + c p k ≤ u ∧ ∀ i, i < c p k → items (s p k + i) = ritems (20 * (8 * p + k) + i))) ∧
  (∀ p k q l, p < n → k < z p → q < n → l < z q → (p ≠ q ∨ k ≠ l) → 1 ≤ c p k → 1 ≤ c q l → s p k + c p k ≤ s q l ∨ s q l + c q l ≤ s p k)
/-- the kinds -/
def wi_K (T : Nat) (y w : Nat → Nat) (total : Int32) (name : Nat → Int64) (size sort may kinds kletters knames kparts ksorts kmay : Nat → Int32) : Prop :=
  (T ≤ 12 ∧ total = Int32.ofNat T ∧ kinds 0 = Int32.ofNat T) ∧
  (∀ i, i < T → kletters i = Int32.ofNat (y i) ∧ 1 ≤ y i ∧ y i ≤ 8 ∧ name i = wq_pack knames (8 * i) (y i) ∧ ∀ j, j < y i → ∃ k, 65 ≤ k ∧ k ≤ 90 ∧ knames (8 * i + j) = Int32.ofNat k) ∧
  (∀ i, i < T → kparts i = Int32.ofNat (w i) ∧ size i = Int32.ofNat (w i) ∧ 1 ≤ w i ∧ w i ≤ 8) ∧
  (∀ i j, i < T → j < w i → (∃ k, k ≤ 5 ∧ ksorts (8 * i + j) = Int32.ofNat k) ∧ sort (i * 8 + j) = ksorts (8 * i + j) ∧ may (i * 8 + j) = kmay (8 * i + j) ∧ (kmay (8 * i + j) = Int32.ofNat 0 ∨ kmay (8 * i + j) = Int32.ofNat 1))
/-- p refers to q -/
def wi_ref (a z : Nat → Nat) (t c : Nat → Nat → Nat) (values items : Nat → Int32) (p q : Nat) : Prop :=
  ∃ k, k < z p ∧ ((t p k = 2 ∧ values (8 * p + k) = Int32.ofNat (a q)) ∨ (t p k = 4 ∧ ∃ i, i < c p k ∧ items (20 * (8 * p + k) + i) = Int32.ofNat (a q)))
/-- a way from p to q -/
def wi_way (n : Nat) (r : Nat → Nat → Prop) (p q : Nat) : Prop := ∃ (l : Nat) (f : Nat → Nat), 1 ≤ l ∧ f 0 = p ∧ f l = q ∧ (∀ i, i ≤ l → f i < n) ∧ ∀ i, i < l → r (f i) (f (i + 1))
/-- the depths: -1 where a ring is come to -/
def wi_D (n : Nat) (r : Nat → Nat → Prop) (D : Nat → Int32) : Prop :=
  ∀ p, p < n → (D p = -1 ∧ ∃ q, q < n ∧ r p q ∧ D q = -1) ∨ (∃ d, d < n ∧ D p = Int32.ofNat d ∧ (∀ q, q < n → r p q → ∃ e, e < d ∧ D q = Int32.ofNat e) ∧ (d = 0 ∨ ∃ q, q < n ∧ r p q ∧ D q = Int32.ofNat (d - 1)))
def wq_bit (x : Int64) (r : Nat) : Bool := x.toBitVec.getLsbD r
/-- the class's graph -/
def wi_G (n : Nat) (o : Nat → Nat) (r : Nat → Nat → Prop) (direct reach : Nat → Int64) (depth : Nat → Int32) : Prop :=
  (∀ p, p < n → ∀ j, j < 64 → (wq_bit (direct (o p)) j = true ↔ ∃ q, q < n ∧ j = o q ∧ r p q)) ∧
  (∀ p, p < n → ∀ j, j < 64 → (wq_bit (reach (o p)) j = true ↔ ∃ q, q < n ∧ j = o q ∧ wi_way n r p q)) ∧
  wi_D n r (fun p => depth (o p))
/-- the line whose number v is -/
def wq_ix (a : Nat → Nat) (n : Nat) (v : Int32) : Nat := (wq_fx a n v).getD 0
/-- p and q are alike, where the lines that they refer to are led by h -/
def wi_al (n : Nat) (a z m : Nat → Nat) (t c : Nat → Nat → Nat) (names values items : Nat → Int32) (h : Nat → Nat) (p q : Nat) : Prop :=
  m p = m q ∧ (∀ i, i < m p → names (8 * p + i) = names (8 * q + i)) ∧ z p = z q ∧
  ∀ k, k < z p → t p k = t q k ∧
    ((t p k = 0 ∨ t p k = 6) → values (8 * p + k) = values (8 * q + k)) ∧
    (t p k = 2 → h (wq_ix a n (values (8 * p + k))) = h (wq_ix a n (values (8 * q + k)))) ∧
    ((t p k = 1 ∨ t p k = 3 ∨ t p k = 5) → c p k = c q k ∧ ∀ i, i < c p k → items (20 * (8 * p + k) + i) = items (20 * (8 * q + k) + i)) ∧
    (t p k = 4 → c p k = c q k ∧ ∀ i, i < c p k → h (wq_ix a n (items (20 * (8 * p + k) + i))) = h (wq_ix a n (items (20 * (8 * q + k) + i))))
/-- each line's first alike one -/
def wi_h (n : Nat) (D : Nat → Int32) (al : (Nat → Nat) → Nat → Nat → Prop) (h : Nat → Nat) : Prop :=
  ∀ p, p < n → (h p = p ∧ (D p = -1 ∨ ∀ q, q < p → D q = D p → ¬ al h p q)) ∨ (h p < p ∧ ¬ D p = -1 ∧ D (h p) = D p ∧ al h p (h p) ∧ ∀ q, q < h p → D q = D p → ¬ al h p q)
/-- the class's groups -/
def wi_L (n : Nat) (a o : Nat → Nat) (al : (Nat → Nat) → Nat → Nat → Prop) (depth : Nat → Int32) (grouped : Int32) (leads : Nat → Int32) : Prop :=
  grouped = Int32.ofNat 0 ∨ ∃ h, wi_h n (fun p => depth (o p)) al h ∧ ∀ p, p < n → leads (a p) = Int32.ofNat (a (h p))
def wi_Model (A : wp_A) (L : wp_L) (S : wp_A) (n R u : Nat) (o a z m : Nat → Nat) (t c s : Nat → Nat → Nat) : Prop :=
  wi_V n a z m t c (A 66 0) (A 67) (A 68) (A 69) (A 70) (A 71) (A 72) (A 73) ∧
  wi_M n R u o a z m t c s (S 15 0) (S 15 1) (S 15 2) (A 16) (L 17) (A 18) (A 19) (A 20) (A 21) (A 22) (A 23) (A 69) (A 72) (A 73) ∧
  wi_G n o (wi_ref a z t c (A 72) (A 73)) (L 43) (L 44) (A 45) ∧
  wi_L n a o (wi_al n a z m t c (A 69) (A 72) (A 73)) (A 45) (S 42 5) (A 47)
def wi_Kept (A : wp_A) (L : wp_L) (S : wp_A) (n R u : Nat) (o a z m : Nat → Nat) (t c s : Nat → Nat → Nat) : Prop :=
  wi_V n a z m t c (A 66 2) (fun p => A 67 (80 + p)) (fun p => A 68 (80 + p)) (fun i => A 69 (640 + i)) (fun p => A 70 (80 + p)) (fun k => A 71 (640 + k)) (fun k => A 72 (640 + k)) (fun i => A 73 (12800 + i)) ∧
  wi_M n R u o a z m t c s (S 33 0) (S 33 1) (S 33 2) (A 34) (L 35) (A 36) (A 37) (A 38) (A 39) (A 40) (A 41) (fun i => A 69 (640 + i)) (fun k => A 72 (640 + k)) (fun i => A 73 (12800 + i))
def wi_I (A : wp_A) (L : wp_L) (S : wp_A) : Prop :=
  wi_T (S 1 1) (S 57 1) (A 2) (A 58) ∧
  (∃ T y w, wi_K T y w (S 5 0) (L 6) (A 7) (A 8) (A 9) (A 60) (A 61) (A 62) (A 63) (A 64) (A 65)) ∧
  (∃ n R u o a z m t c s, wi_Model A L S n R u o a z m t c s) ∧
  (∃ n R u o a z m t c s, wi_Kept A L S n R u o a z m t c s)
theorem wi_zero : wi_I (fun _ _ => 0) (fun _ _ => 0) (fun _ _ => 0) := by
  have hV : wi_V 0 (fun _ => 0) (fun _ => 0) (fun _ => 0) (fun _ _ => 0) (fun _ _ => 0) 0 (fun _ => 0) (fun _ => 0) (fun _ => 0) (fun _ => 0) (fun _ => 0) (fun _ => 0) (fun _ => 0) :=
    ⟨⟨by omega, rfl⟩, fun p h => absurd h (by omega), fun p q _ h => absurd h (by omega), fun p h => absurd h (by omega), fun p h => absurd h (by omega), fun p k h => absurd h (by omega)⟩
  have hM : wi_M 0 0 0 (fun _ => 0) (fun _ => 0) (fun _ => 0) (fun _ => 0) (fun _ _ => 0) (fun _ _ => 0) (fun _ _ => 0) 0 0 0 (fun _ => 0) (fun _ => 0) (fun _ => 0) (fun _ => 0) (fun _ => 0) (fun _ => 0) (fun _ => 0) (fun _ => 0) (fun _ => 0) (fun _ => 0) (fun _ => 0) :=
    ⟨⟨by omega, by omega, by omega, rfl, rfl, rfl⟩, fun p h => absurd h (by omega), fun p q h => absurd h (by omega), fun p k h => absurd h (by omega), fun p k q l h => absurd h (by omega)⟩
  refine ⟨⟨0, by omega, rfl, rfl, fun j h => absurd h (by omega)⟩, ⟨0, fun _ => 0, fun _ => 0, ⟨by omega, rfl, rfl⟩, fun i h => absurd h (by omega), fun i h => absurd h (by omega), fun i j h => absurd h (by omega)⟩, ⟨0, 0, 0, _, _, _, _, _, _, _, hV, hM, ⟨fun p h => absurd h (by omega), fun p h => absurd h (by omega), fun p h => absurd h (by omega)⟩, Or.inl rfl⟩, ⟨0, 0, 0, _, _, _, _, _, _, _, hV, hM⟩⟩
theorem wi_out {A : wp_A} {L : wp_L} {S : wp_A} {f : Nat → Int64} {v : Int32} (h : wi_I A L S) : wi_I A (xy_l L 77 f) (xy_s S 57 0 v) := h
theorem wi_text {A : wp_A} {L : wp_L} {S : wp_A} (h : wi_I A L S) : wp_T A S := by
  obtain ⟨e, h1, h2, h3, h4⟩ := h.1
  refine ⟨by rw [h2, h3], ?_, ?_, ?_⟩
  · rw [h2]
    exact fun hh => (wq_ltF (Nat.zero_le e) (by omega)).mp hh
  · rw [h2, wq_int (by omega)]
    omega
  · intro j hj
    rw [h2, wq_clamp (by omega)] at hj
    obtain ⟨h5, k, h6, h7, h8⟩ := h4 j hj
    refine ⟨h5, ?_⟩
    rw [h8]
    show (decide ((0 : Int32) ≤ Int32.ofNat k) && decide (Int32.ofNat k ≤ (65535 : Int32))) = true
    rw [Bool.and_eq_true, decide_eq_true_eq, decide_eq_true_eq, Int32.le_iff_toInt_le, Int32.le_iff_toInt_le, wq_int (by omega)]
    have e1 : (0 : Int32).toInt = 0 := by decide
    have e2 : (65535 : Int32).toInt = 65535 := by decide
    omega
