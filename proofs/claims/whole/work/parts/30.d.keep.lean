section
variable {s V : State} {args a' : Array Value}
theorem wh_lays {C n d : String} (hW : s.WarmedH V.vm) (hq : ∀ q : Nat, q < s.heap.size → V.heap[q]? = s.heap[q]?) (hl : (Cond.laysStatic C n d).before args s = true) : (Cond.laysStatic C n d).before a' V = true := by
  obtain ⟨c, k, i, f, a, cell, hc, hi, hst, ha, hcell, hs, hcls, hlt, hty⟩ := Cond.laysStatic_spec hl
  obtain ⟨k', hi', hek⟩ := State.fieldFound?_setVm hW.alike hi
  exact Cond.laysStatic_of (s := V) (by rw [hW.alike.findClass]; exact hc) hi' hst (by rw [hek]; exact ha) (by rw [hq a (Array.getElem?_eq_some_iff.mp hcell).1]; exact hcell) hs hcls hlt (by rw [hek]; exact hty)
theorem wh_isref {C n d : String} (hW : s.WarmedH V.vm) (hq : ∀ q : Nat, q < s.heap.size → V.heap[q]? = s.heap[q]?) (hl : (Cond.laysStatic C n d).before args s = true) (hini : (Cond.initialized C).before args s = true) (h : (Cond.isRef (.static C n d)).before args s = true) : (Cond.isRef (.static C n d)).before a' V = true := by
  have hz := va_Zqof (A := fun q => s.heap.size ≤ q) hl hini h (fun a ha hc => by omega)
  have hz := (va_Zq.moved hW.alike hz).kept (H1 := V.heap) (fun a ha _ => hq a ha)
  rcases hz with ⟨cf, kf, fi, f, a, cell, h1, h2, h3, h4, h5, h6, h7, -⟩ | ⟨t, cf, kf, fi, f, a, cell, h1, h2, h3, h4, h5, h6, h7, -⟩
  · have hv := Term.static_eval (args := a') (first := V) (o := none) (idx := []) (s := V) h1 h2 h4 h5 h6 h7
    simp [Cond.before, Cond.holds, Cond.value, hv]
  · have hv := Term.static_eval (args := a') (first := V) (o := none) (idx := []) (s := V) h1 h2 h4 h5 h6 h7
    simp [Cond.before, Cond.holds, Cond.value, hv]
theorem wh_z (hts : ∀ w ∈ lw_tbl, w.before args s = true) (hgv : (Jvm.Cond.and given_1 narrow_1).before args s = true) (hW : s.WarmedH V.vm) (hq : ∀ q : Nat, q < s.heap.size → V.heap[q]? = s.heap[q]?) : ∀ w ∈ xm_z, w.before a' V = true := by
  have hs := flat_of_before _ hgv
  intro w hw
  simp only [xm_z, List.mem_cons, List.not_mem_nil, or_false] at hw
  rcases hw with rfl | rfl | rfl | rfl | rfl | rfl | rfl | rfl | rfl | rfl | rfl | rfl | rfl | rfl | rfl
  · exact wh_isref hW hq (hts _ (by decide +kernel)) (hts _ (by decide +kernel)) (hs _ (by decide +kernel))
  · exact wh_isref hW hq (hts _ (by decide +kernel)) (hts _ (by decide +kernel)) (hs _ (by decide +kernel))
  · exact wh_lays hW hq (hts _ (by decide +kernel))
  · exact wh_lays hW hq (hts _ (by decide +kernel))
  · exact va_Nw.use rfl (va_Nw.warmD hW (va_Nw.of rfl (hts _ (by decide +kernel))))
  · exact va_Nw.use rfl (va_Nw.warmD hW (va_Nw.of rfl (hts _ (by decide +kernel))))
  · exact va_Nw.use rfl (va_Nw.warmD hW (va_Nw.of rfl (hts _ (by decide +kernel))))
  · exact va_Nw.use rfl (va_Nw.warmC hW (va_Nw.of rfl (hts _ (by decide +kernel))))
  · exact va_Nw.use rfl (va_Nw.warmC hW (va_Nw.of rfl (hts _ (by decide +kernel))))
  · exact va_Nw.use rfl (va_Nw.warmM hW (va_Nw.of rfl (hts _ (by decide +kernel))))
  · exact va_Nw.use rfl (va_Nw.warmM hW (va_Nw.of rfl (hts _ (by decide +kernel))))
  · exact va_Nw.use rfl (va_Nw.warmM hW (va_Nw.of rfl (hts _ (by decide +kernel))))
  · exact va_Nw.use rfl (va_Nw.warmM hW (va_Nw.of rfl (hts _ (by decide +kernel))))
  · exact va_Nw.use rfl (va_Nw.warmM hW (va_Nw.of rfl (hts _ (by decide +kernel))))
  · exact va_Nw.use rfl (va_Nw.warmM hW (va_Nw.of rfl (hts _ (by decide +kernel))))
end
