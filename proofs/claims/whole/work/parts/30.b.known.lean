/-! WHAT IS KNOWN AT THE LAW'S ENTRY -/
section
variable {s : State} {args : Array Value}
theorem wh_cls (hts : ∀ w ∈ xw_g, w.before args s = true) : ∀ q ∈ xm_cl, ∃ (cC : ClassId) (iS : Nat → Nat), u_Kn s q.1 q.2.1 q.2.2 cC iS := by
  intro q hq
  simp only [xm_cl, List.mem_cons, List.not_mem_nil, or_false] at hq
  rcases hq with rfl | rfl | rfl | rfl | rfl | rfl | rfl | rfl | rfl | rfl
  · exact u_known hts xm_u0 (hts _ xl_600)
  · exact u_known hts xm_u1 (hts _ xl_4)
  · exact u_known hts xm_u2 (hts _ xl_10)
  · exact u_known hts xm_u3 (hts _ xl_16)
  · exact u_known hts xm_u4 (hts _ xl_23)
  · exact u_known hts xm_u5 (hts _ xl_29)
  · exact u_known hts xm_u6 (hts _ xl_35)
  · exact u_known hts xm_u7 (hts _ xl_40)
  · exact u_known hts xm_u8 (hts _ xl_46)
  · exact u_known hts xm_u9 (hts _ xl_604)
theorem wh_D (hts : ∀ w ∈ xw_g, w.before args s = true) : ∃ D : va_G, ∀ (c : Nat) (q : vw_C), xm_cl[c]? = some q → u_Kn s q.1 q.2.1 q.2.2 (D.1 c) (D.2 c) := by
  obtain ⟨c0, i0, -⟩ := wh_cls hts _ (List.mem_cons_self)
  have h : ∀ c : Nat, ∃ z : ClassId × (Nat → Nat), ∀ q : vw_C, xm_cl[c]? = some q → u_Kn s q.1 q.2.1 q.2.2 z.1 z.2 := by
    intro c
    cases hc : xm_cl[c]? with
    | none => exact ⟨(c0, i0), fun q h => by cases h⟩
    | some q0 =>
      obtain ⟨a, b, h⟩ := wh_cls hts q0 (List.mem_of_getElem? hc)
      exact ⟨(a, b), fun q hq => by cases hq; exact h⟩
  exact ⟨(fun c => (h c).choose.1, fun c => (h c).choose.2), fun c => (h c).choose_spec⟩
theorem wh_arr {ty : FieldType} (h : (Cond.arrayClass ty).before args s = true) : ∃ cA : ClassId, ArrOfT s cA ty ∧ s.vm.findClass ("[" ++ ty.toString) = some cA := by
  obtain ⟨c, k, comp, h1, h2, h3⟩ := Cond.arrayClass_spec h
  exact ⟨c, fun n z => ⟨(fun _ h => by cases h), k, h2, comp, h3⟩, h1⟩
theorem wh_K (hts : ∀ w ∈ xw_g, w.before args s = true) : ∃ (D : va_G) (cA : Nat → ClassId), va_K D xm_cl [(cA 0, .int), (cA 1, .long), (cA 2, .char), (cA 3, .boolean)] s := by
  obtain ⟨D, hD⟩ := wh_D hts
  obtain ⟨a0, p0, q0⟩ := wh_arr (hts _ xl_177)
  obtain ⟨a1, p1, q1⟩ := wh_arr (hts _ xl_197)
  obtain ⟨a2, p2, q2⟩ := wh_arr (hts _ xl_481)
  obtain ⟨a3, p3, q3⟩ := wh_arr (hts _ xl_185)
  refine ⟨D, fun k => match k with | 0 => a0 | 1 => a1 | 2 => a2 | _ => a3, hD, fun k q hk => ?_⟩
  have hm := List.mem_of_getElem? hk
  simp only [List.mem_cons, List.not_mem_nil, or_false] at hm
  rcases hm with rfl | rfl | rfl | rfl
  · exact ⟨p0, q0⟩
  · exact ⟨p1, q1⟩
  · exact ⟨p2, q2⟩
  · exact ⟨p3, q3⟩
end
