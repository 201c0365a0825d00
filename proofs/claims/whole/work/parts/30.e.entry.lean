section
variable {p : Program} {l : Launch} {e : Env} {s : State} {m : MethodId} {below : List Frame} {meth : Method} {c : Code} {b L : Nat} {xs : Nat → Int32}
theorem wh_words {args : Array Value} (hts : ∀ w ∈ lw_tbl, w.before args s = true) (hcw : (Cond.code x code maxLocals ret).before args s = true) : ∀ w ∈ xw_g, w.before args s = true := by
  intro w hw
  rcases List.mem_cons.mp (List.mem_filter.mp hw).1 with rfl | h
  · exact hcw
  · exact hts w h
theorem wh_fx {args : Array Value} (hts : ∀ w ∈ lw_tbl, w.before args s = true) (hcw : (Cond.code x code maxLocals ret).before args s = true) (hgv : (Jvm.Cond.and given_1 narrow_1).before args s = true) (hX : va_X b L xs s s.heap) (hb : b < s.heap.size) :
    ∃ g : xr_G, xg_b g = b ∧ xg_sc g = (L, xs) ∧ xg_lo g = s.heap.size ∧ xr_Fx xm_P g s s.heap := by
  obtain ⟨D, cA, hK⟩ := wh_K (wh_words hts hcw)
  have hA : ∀ a : Nat, a < s.heap.size → ¬ (s.heap.size ≤ a) := fun a ha hc => by omega
  obtain ⟨sa, adV, hS, hev⟩ := wh_txt hgv (A := fun q => s.heap.size ≤ q) hA
  refine ⟨(D.1, D.2, cA, b, L, xs, s.heap.size, sa), rfl, rfl, rfl, hK, hX, ⟨hb, Nat.le_refl _⟩, wh_texts hts hgv, ⟨vk_R.of (A := args) (hts _ (by decide +kernel)) hev, ⟨adV, hS⟩, wh_cmp hts hgv (A := fun q => s.heap.size ≤ q) hA⟩, wh_nc hgv, ?_⟩
  intro w hw a' V hW hq
  exact wh_z hts hgv hW hq w hw
theorem wh_start (hst : l.stackTraces = false) (C0 : lw_At p s m meth c b L xs) (hcw : (Cond.code x code maxLocals ret).before #[Value.ref b] s = true) (hn : meth.name = "law") (htb : c.exceptionTable.toList = [])
    {n N : Nat} (hf : xf_law (L, xs) n N (fun _ _ => 0) (fun _ _ => 0) (fun _ _ => 0) 78 42406 0 = some 1) :
    W p l e room_1 s m #[Value.ref b] below meth c s.heap [] 0 0 (lw_Z below #[Value.ref b] s) (entryFrame m ([Value.ref b] : List Value).toArray 8) := by
  obtain ⟨h1, h2, h3, h4, h5, h6, h7, h8, h9, h10⟩ := C0
  obtain ⟨g, g1, g2, g3, g4⟩ := wh_fx h6 hcw h10 h7 h8
  refine wh_run g1 g3 (n := n) (N := N) ⟨by decide, hst, h1, h2, h4, h5, wh_words h6 hcw, h3, h9, hn, htb, g4⟩ ?_
  rw [g2]
  exact hf
end
