/-! JOIN. -/
theorem wq_pack_congr2 {f g : Nat → Int32} {b b' : Nat} : ∀ k, (∀ i, i < k → f (b + i) = g (b' + i)) → wq_pack f b k = wq_pack g b' k := by
  intro k
  induction k with
  | zero => intro _; rfl
  | succ k ih =>
    intro h
    rw [wq_pack, wq_pack, ih (fun i hi => h i (by omega)), h k (by omega)]
theorem wc_17 {sc : Nat × (Nat → Int32)} {N : Nat} (hN : 200 ≤ N) : wp_Ok sc wi_I (xf_law_17 sc N) := by
  apply wp_red_17
  intro A L S hI
  obtain ⟨hT, hK, ⟨n, R, u, o, a, z, m, t, c, s, hm⟩, ⟨n', R', u', o', a', z', m', t', c', s', hk'⟩⟩ := id hI
  obtain ⟨hn, hn2, hn3⟩ := wi_n hm
  obtain ⟨hV, hM, hG, hL⟩ := id hm
  have hM2 := hM
  rw [hn2] at hM2
  obtain ⟨h, gr', leads', H, hl, hgr⟩ := wm_group hM2 hV hG.2.2 (N := N) (by omega) hL
  obtain ⟨D', lk', ways', f1, f2⟩ := wq_findLikes hV hn3 (N := N) (by omega) hG.2.2 H (A 74) (A 75) (L 76)
  have hh : ∀ x, x < n → h x < n := fun x hx => by
    have := wi_h_le H hx
    omega
  have hid : ∀ x, x < n → h (h x) = h x := fun x hx => wi_h_idem H hx
  obtain ⟨f, p1, p2, p3⟩ := wq_pi h n
  have hle : ∀ x, x < n → xf_le_of leads' 1000 (Int32.ofNat (a x)) = some (Int32.ofNat (a (h x))) := by
    intro x hx
    rw [wm_le (by have := (hV.2.1 x hx).2; omega), hl x hx]
  have hrk := wq_rk_le h n
  obtain ⟨value2, items2, order2, c1, c2, c3⟩ := wj_follow hM2 hV hh hle (fun p hp hst => (p3 p hp hst).2) (N := N) (by omega)
  have hlk : ∀ x, x < n → lk' x = Int32.ofNat (h x) ∧ h x < n := fun x hx => ⟨f2 x hx, hh x hx⟩
  have hS0 : wj_S n a z t c (A 72) (A 73) h 0 0 0 (A 72) (A 73) := ⟨fun p k _ _ => by rw [if_neg (by omega)], fun p k i _ _ _ => by rw [if_neg (by omega)], fun _ _ => rfl, fun _ _ => rfl⟩
  obtain ⟨values1, items1, s1, s2⟩ := wj_11 (depths := D') (letters := A 68) (names := A 69) (ways := ways') (th := Int32.ofNat 0) hV hn3 hlk (N := N) (by omega) n 0 N (A 72) (A 73) (by omega) (by omega) hS0
  obtain ⟨ritems2, letters2, names2, numbers2, parts2, sorts2, values2, j1, j2⟩ := wj_146 (depths := D') (ways := ways') (th := Int32.ofNat 0) (items := items1) (letters := A 68) (names := A 69) (numbers := A 67) (parts := A 70) (sorts := A 71) (values := values1) hn hn3 hlk (fun p hp hst => (p3 p hp hst).2) hN n 0 N items1 (A 68) (A 69) (A 67) (A 70) (A 71) values1 (by omega) (by omega) ⟨fun j hj => absurd hj (by rw [wq_rk]; omega), fun _ _ => ⟨rfl, rfl, rfl⟩, fun _ _ => ⟨rfl, rfl, rfl⟩, fun _ _ => rfl⟩
  rw [wq_rk, Nat.sub_zero] at j2
  obtain ⟨t1, t2, t3, t4⟩ := s1
  obtain ⟨q1, q2, q3, q4⟩ := j1
  obtain ⟨d1, d2⟩ := c1
  obtain ⟨V1, V2, V3, V4, V5, V6⟩ := hV
  obtain ⟨⟨M1, M1', M1'', M1a, M1b, M1c⟩, M2, M3, M4, M5⟩ := id hM
  -- the lines that are left
  have to : ∀ x, x < n → ∃ j, j < wq_rk h n ∧ a (h x) = a (f j) := by
    intro x hx
    obtain ⟨g1, g2⟩ := p3 (h x) (hh x hx) (hid x hx)
    exact ⟨_, g1, by rw [g2]⟩
  have V' : wi_V (wq_rk h n) (fun j => a (f j)) (fun j => z (f j)) (fun j => m (f j)) (fun j => t (f j)) (fun j => c (f j)) (Int32.ofNat (wq_rk h n)) numbers2 letters2 names2 parts2 sorts2 values2 ritems2 := by
    refine ⟨⟨by omega, rfl⟩, fun j hj => ?_, fun j k hjk hk => ?_, fun j hj => ?_, fun j hj => ?_, fun j k hj hk => ?_⟩
    · obtain ⟨b1, _⟩ := p1 j hj
      rw [(q1 j hj).1]
      exact V2 (f j) b1
    · exact V3 _ _ (p2 j k hjk hk) (p1 k hk).1
    · obtain ⟨b1, _⟩ := p1 j hj
      obtain ⟨g1, g2, g3, g4⟩ := V4 (f j) b1
      refine ⟨by rw [(q1 j hj).2.1]; exact g1, g2, g3, fun i hi => ?_⟩
      have hi' : i < m (f j) := hi
      rw [((q1 j hj).2.2.2.1 i (by omega)).1]
      exact g4 i hi
    · obtain ⟨b1, _⟩ := p1 j hj
      rw [(q1 j hj).2.2.1]
      exact V5 (f j) b1
    · obtain ⟨b1, _⟩ := p1 j hj
      have hk2 : k < z (f j) := hk
      obtain ⟨_, _, zz⟩ := V5 (f j) b1
      obtain ⟨g1, w, w', w0, w1, w2, w3, w4, w5, w6⟩ := V6 (f j) k b1 hk2
      obtain ⟨_, e1, e2⟩ := (q1 j hj).2.2.2.1 k (by omega)
      have e3 : values2 (8 * j + k) = wj_v a n h (t (f j) k) (A 72 (8 * f j + k)) := by
        rw [e2, t1 (f j) k b1 hk2, if_pos (Or.inl b1)]
      have e4 : ∀ i, i < c (f j) k → ritems2 (20 * (8 * j + k) + i) = wj_i a n h (t (f j) k) (A 73 (20 * (8 * f j + k) + i)) := by
        intro i hi
        have := (q1 j hj).2.2.2.2 (20 * k + i) (by omega)
        rw [show 160 * j + (20 * k + i) = 20 * (8 * j + k) + i by omega, show 160 * f j + (20 * k + i) = 20 * (8 * f j + k) + i by omega] at this
        rw [this, t2 (f j) k i b1 hk2 hi, if_pos (Or.inl b1)]
      refine ⟨by rw [e1]; exact g1, w, w', fun e => ?_, fun e => ?_, fun e => ?_, fun e => ?_, fun e => ?_, fun e => ?_, fun e => ?_⟩
      · have e5 : t (f j) k = 0 := e
        rw [e3]
        unfold wj_v
        rw [if_neg (by omega)]
        exact w0 e
      · have e5 : t (f j) k = 1 := e
        rw [e3]
        unfold wj_v
        rw [if_neg (by omega)]
        refine ⟨(w1 e).1, fun i hi => ?_⟩
        have e6 := e4 i hi
        unfold wj_i at e6
        rw [if_neg (by omega)] at e6
        obtain ⟨y, y1, y2, y3⟩ := (w1 e).2 i hi
        exact ⟨y, y1, y2, e6.trans y3⟩
      · have e5 : t (f j) k = 2 := e
        obtain ⟨x1, x, x2, x3⟩ := w2 e
        refine ⟨x1, ?_⟩
        obtain ⟨j', y1, y2⟩ := to x x2
        refine ⟨j', y1, ?_⟩
        rw [e3]
        unfold wj_v wj_nv wq_ix
        rw [if_pos e5, x3, wq_ix_at hm.1 x2]
        show Int32.ofNat (a (h x)) = Int32.ofNat (a (f j'))
        rw [y2]
      · have e5 : t (f j) k = 3 := e
        rw [e3]
        unfold wj_v
        rw [if_neg (by omega)]
        refine ⟨(w3 e).1, (w3 e).2.1, fun i hi => ?_⟩
        have e6 := e4 i hi
        unfold wj_i at e6
        rw [if_neg (by omega)] at e6
        show ¬ ritems2 (20 * (8 * j + k) + i) < -999999999 ∧ ¬ Int32.ofNat 999999999 < ritems2 (20 * (8 * j + k) + i)
        rw [e6]
        exact (w3 e).2.2 i hi
      · have e5 : t (f j) k = 4 := e
        rw [e3]
        unfold wj_v
        rw [if_neg (by omega)]
        refine ⟨(w4 e).1, (w4 e).2.1, fun i hi => ?_⟩
        obtain ⟨x, x2, x3⟩ := (w4 e).2.2 i hi
        have x4 : A 73 (20 * (8 * f j + k) + i) = Int32.ofNat (a x) := x3
        obtain ⟨j', y1, y2⟩ := to x x2
        refine ⟨j', y1, ?_⟩
        have e6 := e4 i hi
        unfold wj_i wj_nv wq_ix at e6
        rw [if_pos e5, x4, wq_ix_at hm.1 x2] at e6
        show ritems2 (20 * (8 * j + k) + i) = Int32.ofNat (a (f j'))
        rw [e6, ← y2]
        rfl
      · have e5 : t (f j) k = 5 := e
        rw [e3]
        unfold wj_v
        rw [if_neg (by omega)]
        refine ⟨(w5 e).1, (w5 e).2.1, fun i hi => ?_⟩
        have e6 := e4 i hi
        unfold wj_i at e6
        rw [if_neg (by omega)] at e6
        obtain ⟨y, y1, y2, y3⟩ := (w5 e).2.2 i hi
        exact ⟨y, y1, y2, e6.trans y3⟩
      · have e5 : t (f j) k = 6 := e
        rw [e3]
        unfold wj_v
        rw [if_neg (by omega)]
        exact w6 e
  have M' : wi_M (wq_rk h n) R u (fun j => o (f j)) (fun j => a (f j)) (fun j => z (f j)) (fun j => m (f j)) (fun j => t (f j)) (fun j => c (f j)) (fun j => s (f j)) (S 15 0) (Int32.ofNat (wq_rk h n)) (S 15 2) (A 16) (L 17) (A 18) order2 (A 20) value2 (A 22) items2 names2 values2 ritems2 := by
    refine ⟨⟨by omega, M1', M1'', M1a, rfl, M1c⟩, fun j hj => ?_, fun j k hj hk e => ?_, fun j k hj hk => ?_, fun j k q l hj hk hq hll hne hc hc2 => ?_⟩
    · obtain ⟨b1, _⟩ := p1 j hj
      obtain ⟨g1, g2, g3, g4, g5⟩ := M2 (f j) b1
      have m8 := (V4 (f j) b1).2.2.1
      refine ⟨g1, c2 j hj, g3, g4, ?_⟩
      show L 17 (o (f j)) = wq_pack names2 (8 * j) (m (f j))
      rw [g5]
      exact wq_pack_congr2 _ (fun i hi => ((q1 j hj).2.2.2.1 i (by omega)).1.symm)
    · obtain ⟨b1, _, b3⟩ := p1 j hj
      obtain ⟨b1', _, b3'⟩ := p1 k hk
      have e' := M3 (f j) (f k) b1 b1' e
      rw [e'] at b3
      omega
    · obtain ⟨b1, b2, _⟩ := p1 j hj
      have hk2 : k < z (f j) := hk
      obtain ⟨_, _, zz⟩ := V5 (f j) b1
      obtain ⟨g1, w, w', _⟩ := V6 (f j) k b1 hk2
      obtain ⟨x1, x2, x3⟩ := M4 (f j) k b1 hk2
      obtain ⟨_, e1, e2⟩ := (q1 j hj).2.2.2.1 k (by omega)
      refine ⟨x1, ?_, fun hcc => ?_⟩
      · show value2 (o (f j) * 8 + k) = values2 (8 * j + k)
        rw [d1 (f j) k b1 hk2, if_pos ⟨b2, Or.inl b1⟩, e2, t1 (f j) k b1 hk2, if_pos (Or.inl b1)]
      · obtain ⟨y1, y2, y3⟩ := x3 hcc
        refine ⟨y1, y2, fun i hi => ?_⟩
        have hi2 : i < c (f j) k := hi
        show items2 (s (f j) k + i) = ritems2 (20 * (8 * j + k) + i)
        have := (q1 j hj).2.2.2.2 (20 * k + i) (by omega)
        rw [show 160 * j + (20 * k + i) = 20 * (8 * j + k) + i by omega, show 160 * f j + (20 * k + i) = 20 * (8 * f j + k) + i by omega] at this
        rw [this, t2 (f j) k i b1 hk2 hi2, if_pos (Or.inl b1), d2 (f j) k i b1 hk2 hi2, if_pos ⟨b2, Or.inl b1⟩]
    · obtain ⟨b1, _, b3⟩ := p1 j hj
      obtain ⟨b1', _, b3'⟩ := p1 q hq
      refine M5 (f j) k (f q) l b1 hk b1' hll ?_ hc hc2
      rcases hne with hne | hne
      · exact Or.inl (fun e => hne (by rw [← b3, ← b3', e]))
      · exact Or.inr hne
  obtain ⟨depth', direct', reach', l1, l2⟩ := wm_learn M' V' (N := N) (by omega) (A 45) (L 43) (L 44) gr'
  have h1 : xf_xt_join (L 17) (A 16) (A 18) (A 20) (A 22) (S 15 2) 1000 N (A 45) (L 43) (S 42 5) (A 47) (L 44) (A 23) (S 15 1) (A 19) (A 21) = some (Int32.ofNat (n - wq_rk h n), depth', direct', Int32.ofNat 0, leads', reach', items2, Int32.ofNat (wq_rk h n), order2, value2) := by
    rw [hn2]
    simp (disch := omega) only [↓xf_xt_join_s, ↓wq_b hgr, ↓wq_b c3, ↓wq_b l1, wq_ltT, wq_ltF, wq_inT, wq_clamp, wq_eqF, wq_eqm, wq_meq, wq_add, wq_mul, wq_subT, eq_self, Bool.false_eq_true, ↓reduceIte, Option.bind_some, Sum.elim_inl, Sum.elim_inr, ↓wq_f0b, ↓wq_f1b, ↓wq_f2b, ↓wq_r0b, ↓wq_r1b, ↓Option.bind_some]
  have h2 : xf_rf_join N (A 74) (A 73) (A 68) (A 75) (A 66) (A 69) (A 67) (A 70) (A 71) (S 57 0) (A 72) (L 76) = some (Int32.ofNat (n - wq_rk h n), D', ritems2, letters2, lk', upd (A 66) 0 (Int32.ofNat (wq_rk h n)), names2, numbers2, parts2, sorts2, Int32.ofNat 0, values2, ways') := by
    simp (disch := omega) only [↓xf_rf_join_s, ↓wq_b f1, s2, j2]
  refine ⟨_, _, h1, h2, rfl, ?_⟩
  have k1 : (fun p => numbers2 (80 + p)) = fun p => A 67 (80 + p) := funext (fun p => (q2 (80 + p) (by omega)).1)
  have k2 : (fun p => letters2 (80 + p)) = fun p => A 68 (80 + p) := funext (fun p => (q2 (80 + p) (by omega)).2.1)
  have k3 : (fun p => parts2 (80 + p)) = fun p => A 70 (80 + p) := funext (fun p => (q2 (80 + p) (by omega)).2.2)
  have k4 : (fun i => names2 (640 + i)) = fun i => A 69 (640 + i) := funext (fun i => (q3 (640 + i) (by omega)).1)
  have k5 : (fun i => sorts2 (640 + i)) = fun i => A 71 (640 + i) := funext (fun i => (q3 (640 + i) (by omega)).2.1)
  have k6 : (fun i => values2 (640 + i)) = fun i => A 72 (640 + i) := funext (fun i => ((q3 (640 + i) (by omega)).2.2).trans (t3 _ (by omega)))
  have k7 : (fun i => ritems2 (12800 + i)) = fun i => A 73 (12800 + i) := funext (fun i => (q4 (12800 + i) (by omega)).trans (t4 _ (by omega)))
  have Kp : wi_V n' a' z' m' t' c' (A 66 2) (fun p => numbers2 (80 + p)) (fun p => letters2 (80 + p)) (fun i => names2 (640 + i)) (fun p => parts2 (80 + p)) (fun k => sorts2 (640 + k)) (fun k => values2 (640 + k)) (fun i => ritems2 (12800 + i)) ∧
      wi_M n' R' u' o' a' z' m' t' c' s' (S 33 0) (S 33 1) (S 33 2) (A 34) (L 35) (A 36) (A 37) (A 38) (A 39) (A 40) (A 41) (fun i => names2 (640 + i)) (fun k => values2 (640 + k)) (fun i => ritems2 (12800 + i)) := by
    rw [k1, k2, k3, k4, k5, k6, k7]
    exact hk'
  have V'' : wi_V (wq_rk h n) (fun j => a (f j)) (fun j => z (f j)) (fun j => m (f j)) (fun j => t (f j)) (fun j => c (f j)) (upd (A 66) 0 (Int32.ofNat (wq_rk h n)) 0) numbers2 letters2 names2 parts2 sorts2 values2 ritems2 := by
    rw [wq_upd1]
    exact V'
  exact ⟨hT, hK, ⟨wq_rk h n, R, u, _, _, _, _, _, _, _, V'', M', l2, Or.inl rfl⟩, ⟨n', R', u', o', a', z', m', t', c', s', Kp⟩⟩
