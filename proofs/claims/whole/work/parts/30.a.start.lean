/-! FROM THE LAW'S ENTRY: what the pure function answers, the machine does. -/
theorem wh_run {p : Program} {l : Launch} {e : Env} {s : State} {m : MethodId} {below : List Frame} {meth : Method} {c : Code} {b : Nat} {g : xr_G} (hb : xg_b g = b) (hlo : xg_lo g = s.heap.size)
    (cx : xr_Cx xm_P l g 186 p s m #[Value.ref b] meth c) {n N : Nat} (hf : xf_law (xg_sc g) n N (fun _ _ => 0) (fun _ _ => 0) (fun _ _ => 0) 78 42406 0 = some 1) :
    W p l e room_1 s m #[Value.ref b] below meth c s.heap [] 0 0 (lw_Z below #[Value.ref b] s) (entryFrame m ([Value.ref b] : List Value).toArray 8) := by
  obtain ⟨w, hv⟩ := xh_begin xm_ok (xh_law (l := l) (g := g) xm_ok n N _ _ _ _ _ _ _ hf)
  have hJ : xr_J xm_P l g 186 0 0 0 [(0, .ref 0)] [] xw_c0 (.inl (some (.int 1)), w) := hv rfl rfl
  have hl := lv_entry ([Value.ref b] : List Value) (n := 8) (Nat.le_of_ble_eq_true rfl)
  rw [lg_entry_eq]
  have hAt : xr_At xm_P g (fun k => if k = 0 then b else xg_sa g) xw_c0 s.heap :=
    ⟨fun k q h => by simp [xr_w, xw_c0] at h, ⟨fun i j p q h => by simp [xr_w, xw_c0] at h, fun k q h => by simp [xr_w, xw_c0] at h⟩, hb.symm, rfl⟩
  have hW := hJ p e s m #[Value.ref b] below meth c s.heap [] _ (fun k => if k = 0 then b else xg_sa g) (fun k => if k = 0 then b else xg_sa g) 0 cx
    ⟨Nat.zero_le _, Nat.zero_le _, fun _ => Nat.zero_le _, fun _ _ => rfl, fun _ => rfl⟩ hl hAt va_S.rf
  intro T hT X
  obtain ⟨t, h1, h2⟩ := hW T hT X
  refine ⟨t, h1, ?_⟩
  have h2 : MQ below (xr_Qc xm_P g (fun k => if k = 0 then b else xg_sa g) 0 (xp_I xm_P 186).2.2.1 (.inl (some (.int 1)), w)) #[Value.ref b] s 601024 7293034 (xg_A g) t := h2
  obtain ⟨o, r1, r2, ⟨v, ad', q1, -, -, q4, -, -⟩, LL, ⟨f1, f2, f3⟩, f4⟩ := h2
  have q1 : (some (Value.int 1)) = v := Sum.inl.inj q1
  subst q1
  refine ⟨o, r1, r2, q4, f1, f2, f3.sift (fun z hz => Or.inr ?_)⟩
  have := f4 z hz
  unfold xg_A at this
  rw [hlo] at this
  exact this
